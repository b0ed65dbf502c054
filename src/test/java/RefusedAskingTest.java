/**
 * Each refused call of the promises 15 to 27: it throws the exception that is named first of those that
 * apply, and changes no answer.
 */
final class RefusedAskingTest {
    private static final int TOP = Scene.TOP;
    private static final int FREE = Scene.FREE;
    private static final int NO_PART = Scene.FURNITURE;
    private static final int[] NO_ROWS = {FREE, Scene.SPACE, Scene.FRACTION, Scene.ROOT, Scene.SCRIPTS,
        Scene.FENCE, Scene.MATRIX, Scene.BAR};
    private static final int[] NO_SIGNS = {Scene.SPACE, TOP, Scene.FRACTION, Scene.ROOT,
        Scene.SCRIPTS, Scene.FENCE, Scene.MATRIX, Scene.BAR};

    private static Scene scene = Scene.FURNISHED;

    public static void main(String[] args) {
        ofPart();
        size();
        top();
        place();
        inRow("classAt");
        inRow("gap");
        forRoom("breakRow");
        forRoom("linesWith");
        line();
        roomFor();
        widthWith();
        Check.end();
    }

    private static void test(String sentence, Scene its) {
        Check.test(sentence);
        scene = its;
    }

    private static void noPart(String call, int... with) {
        Refused.by(scene, IndexOutOfBoundsException.class, call, with);
    }

    private static void badArgument(String call, int... with) {
        Refused.by(scene, IllegalArgumentException.class, call, with);
    }

    private static void badState(String call, int... with) {
        Refused.by(scene, IllegalStateException.class, call, with);
    }

    private static void ofPart() {
        test("ofPart: IndexOutOfBoundsException if there is no such PART", Scene.FURNISHED);
        noPart("ofPart", -1, 0);
        noPart("ofPart", NO_PART, 2);
        test("ofPart: IndexOutOfBoundsException, named first, if what is wrong as well", Scene.FURNISHED);
        noPart("ofPart", -1, -1);
        noPart("ofPart", NO_PART, 3);
        scene = Scene.NEW;
        noPart("ofPart", 0, 3);
        test("ofPart: IllegalArgumentException if what is not 0 to 2", Scene.FURNISHED);
        badArgument("ofPart", FREE, -1);
        badArgument("ofPart", FREE, 3);
    }

    private static void size() {
        test("size: IndexOutOfBoundsException if there is no such PART", Scene.FURNISHED);
        noPart("size", -1, 0, 0);
        noPart("size", NO_PART, 3, 2);
        test("size: IndexOutOfBoundsException, named first, if style or what is wrong as well", Scene.FURNISHED);
        noPart("size", -1, 4, 0);
        noPart("size", NO_PART, 0, 3);
        noPart("size", NO_PART, -1, -1);
        test("size: IllegalArgumentException if style is not 0 to 3, or what is not 0 to 2", Scene.FURNISHED);
        badArgument("size", FREE, -1, 0);
        badArgument("size", FREE, 4, 0);
        badArgument("size", FREE, 0, -1);
        badArgument("size", FREE, 3, 3);
        badArgument("size", FREE, 1, -3);
    }

    private static void top() {
        test("top: IndexOutOfBoundsException if there is no such PART", Scene.FURNISHED);
        noPart("top", -1, 0);
        noPart("top", NO_PART, 3);
        test("top: IndexOutOfBoundsException, named first, if style is wrong as well", Scene.FURNISHED);
        noPart("top", -1, -1);
        noPart("top", NO_PART, 4);
        test("top: IllegalArgumentException if style is not 0 to 3", Scene.FURNISHED);
        badArgument("top", FREE, -1);
        badArgument("top", FREE, 4);
        badArgument("top", TOP, 4);
        test("top: IllegalArgumentException, named ahead of IllegalStateException", Scene.FURNISHED);
        badArgument("top", Scene.IN_FRACTION, -1);
        badArgument("top", Scene.IN_MATRIX, 4);
        test("top: IllegalStateException if it has an OWNER", Scene.FURNISHED);
        badState("top", Scene.IN_FRACTION, 0);
        badState("top", Scene.FRACTION, 1);
        badState("top", Scene.IN_MATRIX, 3);
        scene = Scene.NO_TOP;
        badState("top", Scene.IN_MATRIX, 3);
    }

    private static void place() {
        test("place: IndexOutOfBoundsException if there is no such PART", Scene.FURNISHED);
        noPart("place", -1, 0);
        noPart("place", NO_PART, 5);
        test("place: IndexOutOfBoundsException, named first, if others apply as well", Scene.FURNISHED);
        noPart("place", -1, -1);
        noPart("place", NO_PART, 6);
        scene = Scene.NO_TOP;
        noPart("place", NO_PART, 0);
        noPart("place", -1, 6);
        test("place: IllegalArgumentException if what is not 0 to 5", Scene.FURNISHED);
        badArgument("place", TOP, -1);
        badArgument("place", TOP, 6);
        badArgument("place", Scene.IN_FRACTION, 6);
        test("place: IllegalArgumentException, named ahead of IllegalStateException", Scene.FURNISHED);
        badArgument("place", FREE, -1);
        badArgument("place", FREE, 6);
        scene = Scene.NO_TOP;
        badArgument("place", TOP, 6);
        test("place: IllegalStateException if it is not in the TOP", Scene.FURNISHED);
        badState("place", FREE, 0);
        badState("place", Scene.IN_MATRIX, 5);
        test("place: IllegalStateException if there is none", Scene.NO_TOP);
        badState("place", TOP, 0);
        badState("place", FREE, 5);
    }

    private static void inRow(String call) {
        test(call + ": IndexOutOfBoundsException if there is no such PART", Scene.FURNISHED);
        noPart(call, -1, 0);
        noPart(call, NO_PART, 0);
        test(call + ": IndexOutOfBoundsException, named first, if the place is wrong as well", Scene.FURNISHED);
        noPart(call, -1, -1);
        noPart(call, NO_PART, 16);
        test(call + ": IllegalArgumentException if it is no ROW", Scene.FURNISHED);
        for (int each : NO_ROWS) {
            badArgument(call, each, 0);
            badArgument(call, each, -1);
        }
        test(call + ": IllegalArgumentException if it has no such place", Scene.FURNISHED);
        badArgument(call, TOP, -1);
        badArgument(call, TOP, 7);
        badArgument(call, Scene.EMPTY_ROW, 0);
        badArgument(call, Scene.EMPTY_ROW, -1);
        badArgument(call, Scene.OUTER_ROW, 1);
        badArgument(call, Scene.FULL_ROW, 16);
    }

    private static void forRoom(String call) {
        test(call + ": IndexOutOfBoundsException if there is no such PART", Scene.FURNISHED);
        noPart(call, -1, 1);
        noPart(call, NO_PART, 100000);
        test(call + ": IndexOutOfBoundsException, named first, if room is wrong as well", Scene.FURNISHED);
        noPart(call, -1, 0);
        noPart(call, NO_PART, 100001);
        test(call + ": IllegalArgumentException if it is no ROW", Scene.FURNISHED);
        for (int each : NO_ROWS) {
            badArgument(call, each, 1000);
            badArgument(call, each, 0);
        }
        test(call + ": IllegalArgumentException if room is not 1 to 100000", Scene.FURNISHED);
        for (int each : new int[] {TOP, Scene.EMPTY_ROW, Scene.FULL_ROW}) {
            badArgument(call, each, 0);
            badArgument(call, each, -1);
            badArgument(call, each, 100001);
        }
    }

    private static void line() {
        test("line: IndexOutOfBoundsException if no such one is kept", Scene.FURNISHED);
        Check.due("LINES", Scene.FURNISHED.made().breakRow(TOP, 1600), Scene.LINES);
        noPart("line", -1, 0);
        noPart("line", Scene.LINES, 1);
        scene = Scene.NO_LINES;
        noPart("line", 0, 0);
        noPart("line", -1, 1);
        test("line: IndexOutOfBoundsException, named first, if what is wrong as well", Scene.FURNISHED);
        noPart("line", -1, -1);
        noPart("line", Scene.LINES, 2);
        scene = Scene.NO_LINES;
        noPart("line", 0, 2);
        test("line: IllegalArgumentException if what is neither", Scene.FURNISHED);
        badArgument("line", 0, -1);
        badArgument("line", 0, 2);
        badArgument("line", Scene.LINES - 1, 2);
    }

    private static void roomFor() {
        test("roomFor: IndexOutOfBoundsException if there is no such PART", Scene.FURNISHED);
        noPart("roomFor", -1, 1);
        noPart("roomFor", NO_PART, 16);
        test("roomFor: IndexOutOfBoundsException, named first, if lines is wrong as well", Scene.FURNISHED);
        noPart("roomFor", -1, 0);
        noPart("roomFor", NO_PART, 17);
        test("roomFor: IllegalArgumentException if it is no ROW", Scene.FURNISHED);
        for (int each : NO_ROWS) {
            badArgument("roomFor", each, 1);
            badArgument("roomFor", each, 17);
        }
        test("roomFor: IllegalArgumentException if lines is not 1 to 16", Scene.FURNISHED);
        for (int each : new int[] {TOP, Scene.EMPTY_ROW, Scene.FULL_ROW}) {
            badArgument("roomFor", each, 0);
            badArgument("roomFor", each, -1);
            badArgument("roomFor", each, 17);
        }
    }

    private static void widthWith() {
        test("widthWith: IndexOutOfBoundsException if there is no such PART", Scene.FURNISHED);
        noPart("widthWith", -1, 1);
        noPart("widthWith", NO_PART, 1);
        test("widthWith: IndexOutOfBoundsException, named first, if others apply as well", Scene.FURNISHED);
        noPart("widthWith", -1, -1);
        noPart("widthWith", NO_PART, 2001);
        scene = Scene.NO_TOP;
        noPart("widthWith", NO_PART, 1);
        test("widthWith: IllegalArgumentException if it is no SIGN", Scene.FURNISHED);
        for (int each : NO_SIGNS) {
            badArgument("widthWith", each, 1);
        }
        test("widthWith: IllegalArgumentException if width is not 0 to 2000", Scene.FURNISHED);
        for (int each : new int[] {FREE, Scene.IN_FRACTION}) {
            badArgument("widthWith", each, -1);
            badArgument("widthWith", each, 2001);
        }
        test("widthWith: IllegalArgumentException, named ahead of IllegalStateException", Scene.NO_TOP);
        badArgument("widthWith", FREE, -1);
        badArgument("widthWith", FREE, 2001);
        badArgument("widthWith", Scene.SPACE, 1);
        test("widthWith: IllegalStateException if there is no TOP", Scene.NO_TOP);
        badState("widthWith", FREE, 0);
        badState("widthWith", Scene.IN_FRACTION, 2000);
    }
}
