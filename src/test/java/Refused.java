/** Refused calls: on a scene of its own each throws what is due, and leaves all answers as they are without it. */
final class Refused {
    private static Scene scene = Scene.FURNISHED;

    private Refused() {
    }

    /** Begins a test of calls that are refused on objects of this scene. */
    static void test(String sentence, Scene its) {
        Check.test(sentence);
        scene = its;
    }

    /** The next calls of the same test are refused on objects of this scene. */
    static void on(Scene its) {
        scene = its;
    }

    static void noPart(String call, int... with) {
        by(IndexOutOfBoundsException.class, call, with);
    }

    static void badArgument(String call, int... with) {
        by(IllegalArgumentException.class, call, with);
    }

    static void badState(String call, int... with) {
        by(IllegalStateException.class, call, with);
    }

    private static void by(Class<?> due, String call, int... with) {
        String what = Calls.told(call, with) + " of the scene " + scene;
        Ropewalk x = scene.made();
        Check.thrown(what, due, () -> Calls.on(x, call, with));
        Check.holds(what + " changes nothing", scene.answers().equals(scene.answersBehind(call, with)));
    }
}
