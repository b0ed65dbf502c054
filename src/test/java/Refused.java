/** A refused call: on a scene of its own it throws what is due, and leaves all answers as they are without it. */
final class Refused {
    private Refused() {
    }

    static void by(Scene scene, Class<?> due, String call, int... with) {
        String what = Calls.told(call, with) + " of the scene " + scene;
        Ropewalk x = scene.made();
        Check.thrown(what, due, () -> Calls.on(x, call, with));
        Check.holds(what + " changes nothing", scene.answers().equals(scene.answersBehind(call, with)));
    }
}
