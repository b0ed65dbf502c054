/**
 * Each refused call of the promises 2 to 13: it throws the exception that is named first of those that
 * apply, and changes no answer.
 */
final class RefusedTellingTest {
    private static final int FREE = Scene.FREE;
    private static final int OTHER = Scene.OTHER;
    private static final int OWNED = Scene.IN_FRACTION;
    private static final int TOP = Scene.TOP;
    private static final int NO_PART = Scene.FURNITURE;
    private static final int NONE = -1;
    private static final int[] NO_ROWS = {FREE, Scene.SPACE, Scene.FRACTION, Scene.ROOT, Scene.SCRIPTS,
        Scene.FENCE, Scene.MATRIX, Scene.BAR};
    private static final int[] NO_MATRICES = {FREE, Scene.SPACE, TOP, Scene.FRACTION, Scene.ROOT,
        Scene.SCRIPTS, Scene.FENCE, Scene.BAR};
    private static final int[] NO_SIGNS = {Scene.SPACE, Scene.EMPTY_ROW, Scene.FRACTION, Scene.ROOT,
        Scene.SCRIPTS, Scene.FENCE, Scene.MATRIX, Scene.BAR};

    private static Scene scene = Scene.FURNISHED;

    public static void main(String[] args) {
        sign();
        space();
        row();
        put();
        fraction();
        root();
        scripts();
        fence();
        matrix();
        fit();
        bar();
        resize();
        Check.end();
    }

    private static void test(String sentence, Scene its) {
        Check.test(sentence);
        scene = its;
    }

    private static void noPart(String call, int... with) {
        Refused.by(scene, IndexOutOfBoundsException.class, call, with);
    }

    private static void badArgument(String call, int... with) {
        Refused.by(scene, IllegalArgumentException.class, call, with);
    }

    private static void badState(String call, int... with) {
        Refused.by(scene, IllegalStateException.class, call, with);
    }

    private static void wrongSigns() {
        badArgument("sign", -1, 1, 1, 1);
        badArgument("sign", 6, 1, 1, 1);
        badArgument("sign", 0, -1, 1, 1);
        badArgument("sign", 0, 2001, 1, 1);
        badArgument("sign", 0, 1, -1, 1);
        badArgument("sign", 0, 1, 2001, 1);
        badArgument("sign", 0, 1, 1, -1);
        badArgument("sign", 0, 1, 1, 2001);
    }

    private static void sign() {
        test("sign: IllegalArgumentException if the CLASS is not 0 to 5, or a size is not 0 to 2000", Scene.FURNISHED);
        wrongSigns();
        test("sign: IllegalArgumentException, named first, if there are 60 as well", Scene.FULL);
        wrongSigns();
        test("sign: IllegalStateException if there are 60", Scene.FULL);
        badState("sign", 0, 0, 0, 0);
        badState("sign", 5, 2000, 2000, 2000);
    }

    private static void space() {
        test("space: IllegalArgumentException if width is not 0 to 2000", Scene.FURNISHED);
        badArgument("space", -1);
        badArgument("space", 2001);
        test("space: IllegalArgumentException, named first, if there are 60 as well", Scene.FULL);
        badArgument("space", -1);
        badArgument("space", 2001);
        test("space: IllegalStateException if there are 60", Scene.FULL);
        badState("space", 0);
        badState("space", 2000);
    }

    private static void row() {
        test("row: IllegalStateException if there are 60", Scene.FULL);
        badState("row");
    }

    private static void put() {
        test("put: IndexOutOfBoundsException if there is no such PART", Scene.FURNISHED);
        noPart("put", -1, FREE);
        noPart("put", NO_PART, FREE);
        noPart("put", TOP, -1);
        noPart("put", TOP, NO_PART);
        noPart("put", NO_PART, NO_PART);
        test("put: IndexOutOfBoundsException, named first, if others apply as well", Scene.FURNISHED);
        noPart("put", FREE, NO_PART);
        noPart("put", FREE, -1);
        noPart("put", Scene.FULL_ROW, NO_PART);
        noPart("put", NO_PART, OWNED);
        noPart("put", -1, TOP);
        noPart("put", -1, -1);
        test("put: IllegalArgumentException if row is no ROW", Scene.FURNISHED);
        for (int each : NO_ROWS) {
            badArgument("put", each, OTHER);
        }
        test("put: IllegalArgumentException, named ahead of IllegalStateException", Scene.FURNISHED);
        badArgument("put", FREE, FREE);
        badArgument("put", FREE, OWNED);
        badArgument("put", FREE, TOP);
        badArgument("put", Scene.MATRIX, Scene.MATRIX);
        badArgument("put", Scene.IN_MATRIX, Scene.MATRIX);
        test("put: IllegalStateException if it has 16", Scene.FURNISHED);
        badState("put", Scene.FULL_ROW, FREE);
        badState("put", Scene.FULL_ROW, Scene.FULL_ROW);
        badState("put", Scene.FULL_ROW, Scene.FULL_ROW + 1);
        test("put: IllegalStateException if part cannot be named", Scene.FURNISHED);
        badState("put", TOP, OWNED);
        badState("put", TOP, Scene.FRACTION);
        badState("put", Scene.EMPTY_ROW, Scene.IN_MATRIX);
        badState("put", Scene.EMPTY_ROW, TOP);
        test("put: IllegalStateException if part would be in itself", Scene.FURNISHED);
        badState("put", Scene.EMPTY_ROW, Scene.EMPTY_ROW);
        badState("put", TOP, TOP);
        badState("put", Scene.INNER_ROW, Scene.INNER_ROW);
        badState("put", Scene.INNER_ROW, Scene.BAR);
    }

    private static void fraction() {
        test("fraction: IndexOutOfBoundsException if there is no such PART", Scene.FURNISHED);
        noPart("fraction", -1, FREE);
        noPart("fraction", NO_PART, FREE);
        noPart("fraction", FREE, -1);
        noPart("fraction", FREE, NO_PART);
        test("fraction: IndexOutOfBoundsException, named first, if others apply as well", Scene.FURNISHED);
        noPart("fraction", OWNED, NO_PART);
        noPart("fraction", -1, TOP);
        noPart("fraction", -1, -1);
        noPart("fraction", NO_PART, NO_PART);
        scene = Scene.FULL;
        noPart("fraction", FREE, 60);
        noPart("fraction", -1, FREE);
        test("fraction: IllegalStateException if there are 60", Scene.FULL);
        badState("fraction", FREE, OTHER);
        test("fraction: IllegalStateException if a or b cannot be named", Scene.FURNISHED);
        badState("fraction", OWNED, FREE);
        badState("fraction", FREE, OWNED);
        badState("fraction", TOP, FREE);
        badState("fraction", FREE, TOP);
        test("fraction: IllegalStateException if they are the same", Scene.FURNISHED);
        badState("fraction", FREE, FREE);
        badState("fraction", OWNED, OWNED);
    }

    private static void root() {
        test("root: IndexOutOfBoundsException if there is no such PART (but -1 for b)", Scene.FURNISHED);
        noPart("root", -1, FREE);
        noPart("root", NO_PART, FREE);
        noPart("root", -1, NONE);
        noPart("root", NO_PART, NONE);
        noPart("root", FREE, -2);
        noPart("root", FREE, NO_PART);
        test("root: IndexOutOfBoundsException, named first, if others apply as well", Scene.FURNISHED);
        noPart("root", OWNED, NO_PART);
        noPart("root", TOP, -2);
        noPart("root", -1, OWNED);
        noPart("root", NO_PART, NO_PART);
        scene = Scene.FULL;
        noPart("root", 60, NONE);
        noPart("root", FREE, 60);
        test("root: IllegalStateException if there are 60", Scene.FULL);
        badState("root", FREE, OTHER);
        badState("root", FREE, NONE);
        test("root: IllegalStateException if a or b cannot be named", Scene.FURNISHED);
        badState("root", OWNED, NONE);
        badState("root", OWNED, FREE);
        badState("root", FREE, OWNED);
        badState("root", TOP, NONE);
        badState("root", FREE, TOP);
        test("root: IllegalStateException if they are the same", Scene.FURNISHED);
        badState("root", FREE, FREE);
    }

    private static void scripts() {
        int third = Scene.BAR;
        test("scripts: IndexOutOfBoundsException if there is no such PART (but -1 for b and c)", Scene.FURNISHED);
        noPart("scripts", -1, FREE, OTHER);
        noPart("scripts", NO_PART, FREE, OTHER);
        noPart("scripts", FREE, -2, OTHER);
        noPart("scripts", FREE, NO_PART, OTHER);
        noPart("scripts", FREE, NO_PART, NONE);
        noPart("scripts", FREE, OTHER, -2);
        noPart("scripts", FREE, OTHER, NO_PART);
        noPart("scripts", FREE, NONE, NO_PART);
        test("scripts: IndexOutOfBoundsException, named first, if others apply as well", Scene.FURNISHED);
        noPart("scripts", -1, NONE, NONE);
        noPart("scripts", NO_PART, NONE, NONE);
        noPart("scripts", FREE, -2, -2);
        noPart("scripts", OWNED, NO_PART, FREE);
        noPart("scripts", FREE, FREE, NO_PART);
        scene = Scene.FULL;
        noPart("scripts", FREE, OTHER, 60);
        test("scripts: IllegalArgumentException if both are none", Scene.FURNISHED);
        badArgument("scripts", FREE, NONE, NONE);
        test("scripts: IllegalArgumentException, named ahead of IllegalStateException", Scene.FURNISHED);
        badArgument("scripts", OWNED, NONE, NONE);
        badArgument("scripts", TOP, NONE, NONE);
        scene = Scene.FULL;
        badArgument("scripts", FREE, NONE, NONE);
        test("scripts: IllegalStateException if there are 60", Scene.FULL);
        badState("scripts", FREE, OTHER, third);
        badState("scripts", FREE, OTHER, NONE);
        badState("scripts", FREE, NONE, OTHER);
        test("scripts: IllegalStateException if a, b or c cannot be named", Scene.FURNISHED);
        for (int each : new int[] {OWNED, TOP}) {
            badState("scripts", each, FREE, OTHER);
            badState("scripts", FREE, each, OTHER);
            badState("scripts", FREE, OTHER, each);
            badState("scripts", FREE, each, NONE);
            badState("scripts", FREE, NONE, each);
        }
        test("scripts: IllegalStateException if two are the same", Scene.FURNISHED);
        badState("scripts", FREE, FREE, OTHER);
        badState("scripts", FREE, OTHER, FREE);
        badState("scripts", FREE, OTHER, OTHER);
        badState("scripts", FREE, FREE, NONE);
        badState("scripts", FREE, NONE, FREE);
        badState("scripts", FREE, FREE, FREE);
    }

    private static void fence() {
        test("fence: IndexOutOfBoundsException if there is no such PART", Scene.FURNISHED);
        noPart("fence", -1, 1, 1);
        noPart("fence", NO_PART, 1, 0);
        test("fence: IndexOutOfBoundsException, named first, if others apply as well", Scene.FURNISHED);
        noPart("fence", -1, 0, 0);
        noPart("fence", NO_PART, 0, 0);
        scene = Scene.FULL;
        noPart("fence", 60, 1, 1);
        test("fence: IllegalArgumentException if there is neither", Scene.FURNISHED);
        badArgument("fence", FREE, 0, 0);
        test("fence: IllegalArgumentException, named ahead of IllegalStateException", Scene.FURNISHED);
        badArgument("fence", OWNED, 0, 0);
        badArgument("fence", TOP, 0, 0);
        scene = Scene.FULL;
        badArgument("fence", FREE, 0, 0);
        test("fence: IllegalStateException if there are 60", Scene.FULL);
        badState("fence", FREE, 1, 1);
        test("fence: IllegalStateException if a cannot be named", Scene.FURNISHED);
        badState("fence", OWNED, 1, 1);
        badState("fence", TOP, 0, 1);
    }

    private static void wrongMatrices() {
        badArgument("matrix", 0, 1);
        badArgument("matrix", 5, 1);
        badArgument("matrix", 1, 0);
        badArgument("matrix", 1, 5);
        badArgument("matrix", -2, -2);
        badArgument("matrix", 8, 2);
    }

    private static void matrix() {
        test("matrix: IllegalArgumentException if rows or columns is not 1 to 4", Scene.FURNISHED);
        wrongMatrices();
        test("matrix: IllegalArgumentException, named first, if there are 60 as well", Scene.FULL);
        wrongMatrices();
        test("matrix: IllegalStateException if there are 60", Scene.FULL);
        badState("matrix", 1, 1);
        badState("matrix", 4, 4);
    }

    private static void fit() {
        int matrix = Scene.MATRIX;
        test("fit: IndexOutOfBoundsException if there is no such PART", Scene.FURNISHED);
        noPart("fit", -1, 0, FREE);
        noPart("fit", NO_PART, 0, FREE);
        noPart("fit", matrix, 0, -1);
        noPart("fit", matrix, 0, NO_PART);
        test("fit: IndexOutOfBoundsException, named first, if others apply as well", Scene.FURNISHED);
        noPart("fit", matrix, 6, NO_PART);
        noPart("fit", matrix, -1, -1);
        noPart("fit", FREE, 0, NO_PART);
        noPart("fit", matrix, Scene.TAKEN, NO_PART);
        noPart("fit", NO_PART, 0, OWNED);
        test("fit: IllegalArgumentException if matrix is no MATRIX, or has no such place", Scene.FURNISHED);
        for (int each : NO_MATRICES) {
            badArgument("fit", each, 0, OTHER);
        }
        badArgument("fit", matrix, -1, FREE);
        badArgument("fit", matrix, 6, FREE);
        badArgument("fit", Scene.INNER_MATRIX, 1, FREE);
        test("fit: IllegalArgumentException, named ahead of IllegalStateException", Scene.FURNISHED);
        badArgument("fit", matrix, 6, OWNED);
        badArgument("fit", matrix, -1, TOP);
        badArgument("fit", matrix, 6, matrix);
        badArgument("fit", FREE, 0, FREE);
        badArgument("fit", TOP, 0, OWNED);
        test("fit: IllegalStateException if there is one already", Scene.FURNISHED);
        badState("fit", matrix, Scene.TAKEN, FREE);
        badState("fit", matrix, Scene.TAKEN, Scene.IN_MATRIX);
        test("fit: IllegalStateException if part cannot be named", Scene.FURNISHED);
        badState("fit", matrix, 0, OWNED);
        badState("fit", matrix, 0, Scene.IN_MATRIX);
        badState("fit", matrix, 4, TOP);
        test("fit: IllegalStateException if part would be in itself", Scene.FURNISHED);
        badState("fit", matrix, 0, matrix);
        badState("fit", Scene.INNER_MATRIX, 0, Scene.INNER_MATRIX);
        badState("fit", Scene.INNER_MATRIX, 0, Scene.OUTER_ROW);
    }

    private static void bar() {
        test("bar: IndexOutOfBoundsException if there is no such PART", Scene.FURNISHED);
        noPart("bar", -1);
        noPart("bar", NO_PART);
        test("bar: IndexOutOfBoundsException, named first, if there are 60 as well", Scene.FULL);
        noPart("bar", -1);
        noPart("bar", 60);
        test("bar: IllegalStateException if there are 60", Scene.FULL);
        badState("bar", FREE);
        test("bar: IllegalStateException if a cannot be named", Scene.FURNISHED);
        badState("bar", OWNED);
        badState("bar", TOP);
    }

    private static void resize() {
        test("resize: IndexOutOfBoundsException if there is no such PART", Scene.FURNISHED);
        noPart("resize", -1, 1, 1, 1);
        noPart("resize", NO_PART, 1, 1, 1);
        test("resize: IndexOutOfBoundsException, named first, if a size is wrong as well", Scene.FURNISHED);
        noPart("resize", -1, -1, 1, 1);
        noPart("resize", NO_PART, 1, 2001, 1);
        test("resize: IllegalArgumentException if it is no SIGN", Scene.FURNISHED);
        for (int each : NO_SIGNS) {
            badArgument("resize", each, 1, 1, 1);
            badArgument("resize", each, 0, 0, 0);
        }
        test("resize: IllegalArgumentException if width, height or depth is not 0 to 2000", Scene.FURNISHED);
        for (int each : new int[] {FREE, OWNED}) {
            badArgument("resize", each, -1, 1, 1);
            badArgument("resize", each, 2001, 1, 1);
            badArgument("resize", each, 1, -1, 1);
            badArgument("resize", each, 1, 2001, 1);
            badArgument("resize", each, 1, 1, -1);
            badArgument("resize", each, 1, 1, 2001);
        }
    }
}
