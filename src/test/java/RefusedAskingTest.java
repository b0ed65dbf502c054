/**
 * Each refused call of the promises 15 to 27: it throws the exception that is named first of those that
 * apply, and changes no answer.
 */
final class RefusedAskingTest {
    private static final int TOP = Scene.TOP;
    private static final int FREE = Scene.FREE;
    private static final int NO_PART = Scene.FURNITURE;

    public static void main(String[] args) {
        ofPart();
        size();
        top();
        place();
        inRow("classAt");
        inRow("gap");
        forRoom("breakRow");
        forRoom("linesWith");
        line();
        roomFor();
        widthWith();
        Check.end();
    }

    private static void ofPart() {
        Refused.test("ofPart: IndexOutOfBoundsException if there is no such PART", Scene.FURNISHED);
        Refused.noPart("ofPart", -1, 0);
        Refused.noPart("ofPart", NO_PART, 2);
        Refused.test("ofPart: IndexOutOfBoundsException, named first, if what is wrong as well", Scene.FURNISHED);
        Refused.noPart("ofPart", -1, -1);
        Refused.noPart("ofPart", NO_PART, 3);
        Refused.on(Scene.NEW);
        Refused.noPart("ofPart", 0, 3);
        Refused.test("ofPart: IllegalArgumentException if what is not 0 to 2", Scene.FURNISHED);
        Refused.badArgument("ofPart", FREE, -1);
        Refused.badArgument("ofPart", FREE, 3);
    }

    private static void size() {
        Refused.test("size: IndexOutOfBoundsException if there is no such PART", Scene.FURNISHED);
        Refused.noPart("size", -1, 0, 0);
        Refused.noPart("size", NO_PART, 3, 2);
        Refused.test("size: IndexOutOfBoundsException, named first, if style or what is wrong as well", Scene.FURNISHED);
        Refused.noPart("size", -1, 4, 0);
        Refused.noPart("size", NO_PART, 0, 3);
        Refused.noPart("size", NO_PART, -1, -1);
        Refused.test("size: IllegalArgumentException if style is not 0 to 3, or what is not 0 to 2", Scene.FURNISHED);
        Refused.badArgument("size", FREE, -1, 0);
        Refused.badArgument("size", FREE, 4, 0);
        Refused.badArgument("size", FREE, 0, -1);
        Refused.badArgument("size", FREE, 3, 3);
        Refused.badArgument("size", FREE, 1, -3);
    }

    private static void top() {
        Refused.test("top: IndexOutOfBoundsException if there is no such PART", Scene.FURNISHED);
        Refused.noPart("top", -1, 0);
        Refused.noPart("top", NO_PART, 3);
        Refused.test("top: IndexOutOfBoundsException, named first, if style is wrong as well", Scene.FURNISHED);
        Refused.noPart("top", -1, -1);
        Refused.noPart("top", NO_PART, 4);
        Refused.test("top: IllegalArgumentException if style is not 0 to 3", Scene.FURNISHED);
        Refused.badArgument("top", FREE, -1);
        Refused.badArgument("top", FREE, 4);
        Refused.badArgument("top", TOP, 4);
        Refused.test("top: IllegalArgumentException, named ahead of IllegalStateException", Scene.FURNISHED);
        Refused.badArgument("top", Scene.IN_FRACTION, -1);
        Refused.badArgument("top", Scene.IN_MATRIX, 4);
        Refused.test("top: IllegalStateException if it has an OWNER", Scene.FURNISHED);
        Refused.badState("top", Scene.IN_FRACTION, 0);
        Refused.badState("top", Scene.FRACTION, 1);
        Refused.badState("top", Scene.IN_MATRIX, 3);
        Refused.on(Scene.NO_TOP);
        Refused.badState("top", Scene.IN_MATRIX, 3);
    }

    private static void place() {
        Refused.test("place: IndexOutOfBoundsException if there is no such PART", Scene.FURNISHED);
        Refused.noPart("place", -1, 0);
        Refused.noPart("place", NO_PART, 5);
        Refused.test("place: IndexOutOfBoundsException, named first, if others apply as well", Scene.FURNISHED);
        Refused.noPart("place", -1, -1);
        Refused.noPart("place", NO_PART, 6);
        Refused.on(Scene.NO_TOP);
        Refused.noPart("place", NO_PART, 0);
        Refused.noPart("place", -1, 6);
        Refused.test("place: IllegalArgumentException if what is not 0 to 5", Scene.FURNISHED);
        Refused.badArgument("place", TOP, -1);
        Refused.badArgument("place", TOP, 6);
        Refused.badArgument("place", Scene.IN_FRACTION, 6);
        Refused.test("place: IllegalArgumentException, named ahead of IllegalStateException", Scene.FURNISHED);
        Refused.badArgument("place", FREE, -1);
        Refused.badArgument("place", FREE, 6);
        Refused.on(Scene.NO_TOP);
        Refused.badArgument("place", TOP, 6);
        Refused.test("place: IllegalStateException if it is not in the TOP", Scene.FURNISHED);
        Refused.badState("place", FREE, 0);
        Refused.badState("place", Scene.IN_MATRIX, 5);
        Refused.test("place: IllegalStateException if there is none", Scene.NO_TOP);
        Refused.badState("place", TOP, 0);
        Refused.badState("place", FREE, 5);
    }

    private static void inRow(String call) {
        Refused.test(call + ": IndexOutOfBoundsException if there is no such PART", Scene.FURNISHED);
        Refused.noPart(call, -1, 0);
        Refused.noPart(call, NO_PART, 0);
        Refused.test(call + ": IndexOutOfBoundsException, named first, if the place is wrong as well", Scene.FURNISHED);
        Refused.noPart(call, -1, -1);
        Refused.noPart(call, NO_PART, 16);
        Refused.test(call + ": IllegalArgumentException if it is no ROW", Scene.FURNISHED);
        for (int each : Scene.NO_ROWS) {
            Refused.badArgument(call, each, 0);
            Refused.badArgument(call, each, -1);
        }
        Refused.test(call + ": IllegalArgumentException if it has no such place", Scene.FURNISHED);
        Refused.badArgument(call, TOP, -1);
        Refused.badArgument(call, TOP, 7);
        Refused.badArgument(call, Scene.EMPTY_ROW, 0);
        Refused.badArgument(call, Scene.EMPTY_ROW, -1);
        Refused.badArgument(call, Scene.OUTER_ROW, 1);
        Refused.badArgument(call, Scene.FULL_ROW, 16);
    }

    private static void forRoom(String call) {
        Refused.test(call + ": IndexOutOfBoundsException if there is no such PART", Scene.FURNISHED);
        Refused.noPart(call, -1, 1);
        Refused.noPart(call, NO_PART, 100000);
        Refused.test(call + ": IndexOutOfBoundsException, named first, if room is wrong as well", Scene.FURNISHED);
        Refused.noPart(call, -1, 0);
        Refused.noPart(call, NO_PART, 100001);
        Refused.test(call + ": IllegalArgumentException if it is no ROW", Scene.FURNISHED);
        for (int each : Scene.NO_ROWS) {
            Refused.badArgument(call, each, 1000);
            Refused.badArgument(call, each, 0);
        }
        Refused.test(call + ": IllegalArgumentException if room is not 1 to 100000", Scene.FURNISHED);
        for (int each : new int[] {TOP, Scene.EMPTY_ROW, Scene.FULL_ROW}) {
            Refused.badArgument(call, each, 0);
            Refused.badArgument(call, each, -1);
            Refused.badArgument(call, each, 100001);
        }
    }

    private static void line() {
        Refused.test("line: IndexOutOfBoundsException if no such one is kept", Scene.FURNISHED);
        Check.due("LINES", Scene.FURNISHED.made().breakRow(TOP, 1600), Scene.LINES);
        Refused.noPart("line", -1, 0);
        Refused.noPart("line", Scene.LINES, 1);
        Refused.on(Scene.NO_LINES);
        Refused.noPart("line", 0, 0);
        Refused.noPart("line", -1, 1);
        Refused.test("line: IndexOutOfBoundsException, named first, if what is wrong as well", Scene.FURNISHED);
        Refused.noPart("line", -1, -1);
        Refused.noPart("line", Scene.LINES, 2);
        Refused.on(Scene.NO_LINES);
        Refused.noPart("line", 0, 2);
        Refused.test("line: IllegalArgumentException if what is neither", Scene.FURNISHED);
        Refused.badArgument("line", 0, -1);
        Refused.badArgument("line", 0, 2);
        Refused.badArgument("line", Scene.LINES - 1, 2);
    }

    private static void roomFor() {
        Refused.test("roomFor: IndexOutOfBoundsException if there is no such PART", Scene.FURNISHED);
        Refused.noPart("roomFor", -1, 1);
        Refused.noPart("roomFor", NO_PART, 16);
        Refused.test("roomFor: IndexOutOfBoundsException, named first, if lines is wrong as well", Scene.FURNISHED);
        Refused.noPart("roomFor", -1, 0);
        Refused.noPart("roomFor", NO_PART, 17);
        Refused.test("roomFor: IllegalArgumentException if it is no ROW", Scene.FURNISHED);
        for (int each : Scene.NO_ROWS) {
            Refused.badArgument("roomFor", each, 1);
            Refused.badArgument("roomFor", each, 17);
        }
        Refused.test("roomFor: IllegalArgumentException if lines is not 1 to 16", Scene.FURNISHED);
        for (int each : new int[] {TOP, Scene.EMPTY_ROW, Scene.FULL_ROW}) {
            Refused.badArgument("roomFor", each, 0);
            Refused.badArgument("roomFor", each, -1);
            Refused.badArgument("roomFor", each, 17);
        }
    }

    private static void widthWith() {
        Refused.test("widthWith: IndexOutOfBoundsException if there is no such PART", Scene.FURNISHED);
        Refused.noPart("widthWith", -1, 1);
        Refused.noPart("widthWith", NO_PART, 1);
        Refused.test("widthWith: IndexOutOfBoundsException, named first, if others apply as well", Scene.FURNISHED);
        Refused.noPart("widthWith", -1, -1);
        Refused.noPart("widthWith", NO_PART, 2001);
        Refused.on(Scene.NO_TOP);
        Refused.noPart("widthWith", NO_PART, 1);
        Refused.test("widthWith: IllegalArgumentException if it is no SIGN", Scene.FURNISHED);
        for (int each : Scene.NO_SIGNS) {
            Refused.badArgument("widthWith", each, 1);
        }
        Refused.test("widthWith: IllegalArgumentException if width is not 0 to 2000", Scene.FURNISHED);
        for (int each : new int[] {FREE, Scene.IN_FRACTION}) {
            Refused.badArgument("widthWith", each, -1);
            Refused.badArgument("widthWith", each, 2001);
        }
        Refused.test("widthWith: IllegalArgumentException, named ahead of IllegalStateException", Scene.NO_TOP);
        Refused.badArgument("widthWith", FREE, -1);
        Refused.badArgument("widthWith", FREE, 2001);
        Refused.badArgument("widthWith", Scene.SPACE, 1);
        Refused.test("widthWith: IllegalStateException if there is no TOP", Scene.NO_TOP);
        Refused.badState("widthWith", FREE, 0);
        Refused.badState("widthWith", Scene.IN_FRACTION, 2000);
    }
}
