/**
 * Each refused call of the promises 2 to 13: it throws the exception that is named first of those that
 * apply, and changes no answer.
 */
final class RefusedTellingTest {
    private static final int FREE = Scene.FREE;
    private static final int OTHER = Scene.OTHER;
    private static final int OWNED = Scene.IN_FRACTION;
    private static final int TOP = Scene.TOP;
    private static final int NO_PART = Scene.FURNITURE;
    private static final int NONE = -1;

    public static void main(String[] args) {
        sign();
        space();
        row();
        put();
        fraction();
        root();
        scripts();
        fence();
        matrix();
        fit();
        bar();
        resize();
        Check.end();
    }

    private static void wrongSigns() {
        Refused.badArgument("sign", -1, 1, 1, 1);
        Refused.badArgument("sign", 6, 1, 1, 1);
        Refused.badArgument("sign", 0, -1, 1, 1);
        Refused.badArgument("sign", 0, 2001, 1, 1);
        Refused.badArgument("sign", 0, 1, -1, 1);
        Refused.badArgument("sign", 0, 1, 2001, 1);
        Refused.badArgument("sign", 0, 1, 1, -1);
        Refused.badArgument("sign", 0, 1, 1, 2001);
    }

    private static void sign() {
        Refused.test("sign: IllegalArgumentException if the CLASS is not 0 to 5, or a size is not 0 to 2000", Scene.FURNISHED);
        wrongSigns();
        Refused.test("sign: IllegalArgumentException, named first, if there are 60 as well", Scene.FULL);
        wrongSigns();
        Refused.test("sign: IllegalStateException if there are 60", Scene.FULL);
        Refused.badState("sign", 0, 0, 0, 0);
        Refused.badState("sign", 5, 2000, 2000, 2000);
    }

    private static void space() {
        Refused.test("space: IllegalArgumentException if width is not 0 to 2000", Scene.FURNISHED);
        Refused.badArgument("space", -1);
        Refused.badArgument("space", 2001);
        Refused.test("space: IllegalArgumentException, named first, if there are 60 as well", Scene.FULL);
        Refused.badArgument("space", -1);
        Refused.badArgument("space", 2001);
        Refused.test("space: IllegalStateException if there are 60", Scene.FULL);
        Refused.badState("space", 0);
        Refused.badState("space", 2000);
    }

    private static void row() {
        Refused.test("row: IllegalStateException if there are 60", Scene.FULL);
        Refused.badState("row");
    }

    private static void put() {
        Refused.test("put: IndexOutOfBoundsException if there is no such PART", Scene.FURNISHED);
        Refused.noPart("put", -1, FREE);
        Refused.noPart("put", NO_PART, FREE);
        Refused.noPart("put", TOP, -1);
        Refused.noPart("put", TOP, NO_PART);
        Refused.noPart("put", NO_PART, NO_PART);
        Refused.test("put: IndexOutOfBoundsException, named first, if others apply as well", Scene.FURNISHED);
        Refused.noPart("put", FREE, NO_PART);
        Refused.noPart("put", FREE, -1);
        Refused.noPart("put", Scene.FULL_ROW, NO_PART);
        Refused.noPart("put", NO_PART, OWNED);
        Refused.noPart("put", -1, TOP);
        Refused.noPart("put", -1, -1);
        Refused.test("put: IllegalArgumentException if row is no ROW", Scene.FURNISHED);
        for (int each : Scene.NO_ROWS) {
            Refused.badArgument("put", each, OTHER);
        }
        Refused.test("put: IllegalArgumentException, named ahead of IllegalStateException", Scene.FURNISHED);
        Refused.badArgument("put", FREE, FREE);
        Refused.badArgument("put", FREE, OWNED);
        Refused.badArgument("put", FREE, TOP);
        Refused.badArgument("put", Scene.MATRIX, Scene.MATRIX);
        Refused.badArgument("put", Scene.IN_MATRIX, Scene.MATRIX);
        Refused.test("put: IllegalStateException if it has 16", Scene.FURNISHED);
        Refused.badState("put", Scene.FULL_ROW, FREE);
        Refused.badState("put", Scene.FULL_ROW, Scene.FULL_ROW);
        Refused.badState("put", Scene.FULL_ROW, Scene.FULL_ROW + 1);
        Refused.test("put: IllegalStateException if part cannot be named", Scene.FURNISHED);
        Refused.badState("put", TOP, OWNED);
        Refused.badState("put", TOP, Scene.FRACTION);
        Refused.badState("put", Scene.EMPTY_ROW, Scene.IN_MATRIX);
        Refused.badState("put", Scene.EMPTY_ROW, TOP);
        Refused.test("put: IllegalStateException if part would be in itself", Scene.FURNISHED);
        Refused.badState("put", Scene.EMPTY_ROW, Scene.EMPTY_ROW);
        Refused.badState("put", TOP, TOP);
        Refused.badState("put", Scene.INNER_ROW, Scene.INNER_ROW);
        Refused.badState("put", Scene.INNER_ROW, Scene.BAR);
    }

    private static void fraction() {
        Refused.test("fraction: IndexOutOfBoundsException if there is no such PART", Scene.FURNISHED);
        Refused.noPart("fraction", -1, FREE);
        Refused.noPart("fraction", NO_PART, FREE);
        Refused.noPart("fraction", FREE, -1);
        Refused.noPart("fraction", FREE, NO_PART);
        Refused.test("fraction: IndexOutOfBoundsException, named first, if others apply as well", Scene.FURNISHED);
        Refused.noPart("fraction", OWNED, NO_PART);
        Refused.noPart("fraction", -1, TOP);
        Refused.noPart("fraction", -1, -1);
        Refused.noPart("fraction", NO_PART, NO_PART);
        Refused.on(Scene.FULL);
        Refused.noPart("fraction", FREE, 60);
        Refused.noPart("fraction", -1, FREE);
        Refused.test("fraction: IllegalStateException if there are 60", Scene.FULL);
        Refused.badState("fraction", FREE, OTHER);
        Refused.test("fraction: IllegalStateException if a or b cannot be named", Scene.FURNISHED);
        Refused.badState("fraction", OWNED, FREE);
        Refused.badState("fraction", FREE, OWNED);
        Refused.badState("fraction", TOP, FREE);
        Refused.badState("fraction", FREE, TOP);
        Refused.test("fraction: IllegalStateException if they are the same", Scene.FURNISHED);
        Refused.badState("fraction", FREE, FREE);
        Refused.badState("fraction", OWNED, OWNED);
    }

    private static void root() {
        Refused.test("root: IndexOutOfBoundsException if there is no such PART (but -1 for b)", Scene.FURNISHED);
        Refused.noPart("root", -1, FREE);
        Refused.noPart("root", NO_PART, FREE);
        Refused.noPart("root", -1, NONE);
        Refused.noPart("root", NO_PART, NONE);
        Refused.noPart("root", FREE, -2);
        Refused.noPart("root", FREE, NO_PART);
        Refused.test("root: IndexOutOfBoundsException, named first, if others apply as well", Scene.FURNISHED);
        Refused.noPart("root", OWNED, NO_PART);
        Refused.noPart("root", TOP, -2);
        Refused.noPart("root", -1, OWNED);
        Refused.noPart("root", NO_PART, NO_PART);
        Refused.on(Scene.FULL);
        Refused.noPart("root", 60, NONE);
        Refused.noPart("root", FREE, 60);
        Refused.test("root: IllegalStateException if there are 60", Scene.FULL);
        Refused.badState("root", FREE, OTHER);
        Refused.badState("root", FREE, NONE);
        Refused.test("root: IllegalStateException if a or b cannot be named", Scene.FURNISHED);
        Refused.badState("root", OWNED, NONE);
        Refused.badState("root", OWNED, FREE);
        Refused.badState("root", FREE, OWNED);
        Refused.badState("root", TOP, NONE);
        Refused.badState("root", FREE, TOP);
        Refused.test("root: IllegalStateException if they are the same", Scene.FURNISHED);
        Refused.badState("root", FREE, FREE);
    }

    private static void scripts() {
        int third = Scene.BAR;
        Refused.test("scripts: IndexOutOfBoundsException if there is no such PART (but -1 for b and c)", Scene.FURNISHED);
        Refused.noPart("scripts", -1, FREE, OTHER);
        Refused.noPart("scripts", NO_PART, FREE, OTHER);
        Refused.noPart("scripts", FREE, -2, OTHER);
        Refused.noPart("scripts", FREE, NO_PART, OTHER);
        Refused.noPart("scripts", FREE, NO_PART, NONE);
        Refused.noPart("scripts", FREE, OTHER, -2);
        Refused.noPart("scripts", FREE, OTHER, NO_PART);
        Refused.noPart("scripts", FREE, NONE, NO_PART);
        Refused.test("scripts: IndexOutOfBoundsException, named first, if others apply as well", Scene.FURNISHED);
        Refused.noPart("scripts", -1, NONE, NONE);
        Refused.noPart("scripts", NO_PART, NONE, NONE);
        Refused.noPart("scripts", FREE, -2, -2);
        Refused.noPart("scripts", OWNED, NO_PART, FREE);
        Refused.noPart("scripts", FREE, FREE, NO_PART);
        Refused.on(Scene.FULL);
        Refused.noPart("scripts", FREE, OTHER, 60);
        Refused.test("scripts: IllegalArgumentException if both are none", Scene.FURNISHED);
        Refused.badArgument("scripts", FREE, NONE, NONE);
        Refused.test("scripts: IllegalArgumentException, named ahead of IllegalStateException", Scene.FURNISHED);
        Refused.badArgument("scripts", OWNED, NONE, NONE);
        Refused.badArgument("scripts", TOP, NONE, NONE);
        Refused.on(Scene.FULL);
        Refused.badArgument("scripts", FREE, NONE, NONE);
        Refused.test("scripts: IllegalStateException if there are 60", Scene.FULL);
        Refused.badState("scripts", FREE, OTHER, third);
        Refused.badState("scripts", FREE, OTHER, NONE);
        Refused.badState("scripts", FREE, NONE, OTHER);
        Refused.test("scripts: IllegalStateException if a, b or c cannot be named", Scene.FURNISHED);
        for (int each : new int[] {OWNED, TOP}) {
            Refused.badState("scripts", each, FREE, OTHER);
            Refused.badState("scripts", FREE, each, OTHER);
            Refused.badState("scripts", FREE, OTHER, each);
            Refused.badState("scripts", FREE, each, NONE);
            Refused.badState("scripts", FREE, NONE, each);
        }
        Refused.test("scripts: IllegalStateException if two are the same", Scene.FURNISHED);
        Refused.badState("scripts", FREE, FREE, OTHER);
        Refused.badState("scripts", FREE, OTHER, FREE);
        Refused.badState("scripts", FREE, OTHER, OTHER);
        Refused.badState("scripts", FREE, FREE, NONE);
        Refused.badState("scripts", FREE, NONE, FREE);
        Refused.badState("scripts", FREE, FREE, FREE);
    }

    private static void fence() {
        Refused.test("fence: IndexOutOfBoundsException if there is no such PART", Scene.FURNISHED);
        Refused.noPart("fence", -1, 1, 1);
        Refused.noPart("fence", NO_PART, 1, 0);
        Refused.test("fence: IndexOutOfBoundsException, named first, if others apply as well", Scene.FURNISHED);
        Refused.noPart("fence", -1, 0, 0);
        Refused.noPart("fence", NO_PART, 0, 0);
        Refused.on(Scene.FULL);
        Refused.noPart("fence", 60, 1, 1);
        Refused.test("fence: IllegalArgumentException if there is neither", Scene.FURNISHED);
        Refused.badArgument("fence", FREE, 0, 0);
        Refused.test("fence: IllegalArgumentException, named ahead of IllegalStateException", Scene.FURNISHED);
        Refused.badArgument("fence", OWNED, 0, 0);
        Refused.badArgument("fence", TOP, 0, 0);
        Refused.on(Scene.FULL);
        Refused.badArgument("fence", FREE, 0, 0);
        Refused.test("fence: IllegalStateException if there are 60", Scene.FULL);
        Refused.badState("fence", FREE, 1, 1);
        Refused.test("fence: IllegalStateException if a cannot be named", Scene.FURNISHED);
        Refused.badState("fence", OWNED, 1, 1);
        Refused.badState("fence", TOP, 0, 1);
    }

    private static void wrongMatrices() {
        Refused.badArgument("matrix", 0, 1);
        Refused.badArgument("matrix", 5, 1);
        Refused.badArgument("matrix", 1, 0);
        Refused.badArgument("matrix", 1, 5);
        Refused.badArgument("matrix", -2, -2);
        Refused.badArgument("matrix", 8, 2);
    }

    private static void matrix() {
        Refused.test("matrix: IllegalArgumentException if rows or columns is not 1 to 4", Scene.FURNISHED);
        wrongMatrices();
        Refused.test("matrix: IllegalArgumentException, named first, if there are 60 as well", Scene.FULL);
        wrongMatrices();
        Refused.test("matrix: IllegalStateException if there are 60", Scene.FULL);
        Refused.badState("matrix", 1, 1);
        Refused.badState("matrix", 4, 4);
    }

    private static void fit() {
        int matrix = Scene.MATRIX;
        Refused.test("fit: IndexOutOfBoundsException if there is no such PART", Scene.FURNISHED);
        Refused.noPart("fit", -1, 0, FREE);
        Refused.noPart("fit", NO_PART, 0, FREE);
        Refused.noPart("fit", matrix, 0, -1);
        Refused.noPart("fit", matrix, 0, NO_PART);
        Refused.test("fit: IndexOutOfBoundsException, named first, if others apply as well", Scene.FURNISHED);
        Refused.noPart("fit", matrix, 6, NO_PART);
        Refused.noPart("fit", matrix, -1, -1);
        Refused.noPart("fit", FREE, 0, NO_PART);
        Refused.noPart("fit", matrix, Scene.TAKEN, NO_PART);
        Refused.noPart("fit", NO_PART, 0, OWNED);
        Refused.test("fit: IllegalArgumentException if matrix is no MATRIX, or has no such place", Scene.FURNISHED);
        for (int each : Scene.NO_MATRICES) {
            Refused.badArgument("fit", each, 0, OTHER);
        }
        Refused.badArgument("fit", matrix, -1, FREE);
        Refused.badArgument("fit", matrix, 6, FREE);
        Refused.badArgument("fit", Scene.INNER_MATRIX, 1, FREE);
        Refused.test("fit: IllegalArgumentException, named ahead of IllegalStateException", Scene.FURNISHED);
        Refused.badArgument("fit", matrix, 6, OWNED);
        Refused.badArgument("fit", matrix, -1, TOP);
        Refused.badArgument("fit", matrix, 6, matrix);
        Refused.badArgument("fit", FREE, 0, FREE);
        Refused.badArgument("fit", TOP, 0, OWNED);
        Refused.test("fit: IllegalStateException if there is one already", Scene.FURNISHED);
        Refused.badState("fit", matrix, Scene.TAKEN, FREE);
        Refused.badState("fit", matrix, Scene.TAKEN, Scene.IN_MATRIX);
        Refused.test("fit: IllegalStateException if part cannot be named", Scene.FURNISHED);
        Refused.badState("fit", matrix, 0, OWNED);
        Refused.badState("fit", matrix, 0, Scene.IN_MATRIX);
        Refused.badState("fit", matrix, 4, TOP);
        Refused.test("fit: IllegalStateException if part would be in itself", Scene.FURNISHED);
        Refused.badState("fit", matrix, 0, matrix);
        Refused.badState("fit", Scene.INNER_MATRIX, 0, Scene.INNER_MATRIX);
        Refused.badState("fit", Scene.INNER_MATRIX, 0, Scene.OUTER_ROW);
    }

    private static void bar() {
        Refused.test("bar: IndexOutOfBoundsException if there is no such PART", Scene.FURNISHED);
        Refused.noPart("bar", -1);
        Refused.noPart("bar", NO_PART);
        Refused.test("bar: IndexOutOfBoundsException, named first, if there are 60 as well", Scene.FULL);
        Refused.noPart("bar", -1);
        Refused.noPart("bar", 60);
        Refused.test("bar: IllegalStateException if there are 60", Scene.FULL);
        Refused.badState("bar", FREE);
        Refused.test("bar: IllegalStateException if a cannot be named", Scene.FURNISHED);
        Refused.badState("bar", OWNED);
        Refused.badState("bar", TOP);
    }

    private static void resize() {
        Refused.test("resize: IndexOutOfBoundsException if there is no such PART", Scene.FURNISHED);
        Refused.noPart("resize", -1, 1, 1, 1);
        Refused.noPart("resize", NO_PART, 1, 1, 1);
        Refused.test("resize: IndexOutOfBoundsException, named first, if a size is wrong as well", Scene.FURNISHED);
        Refused.noPart("resize", -1, -1, 1, 1);
        Refused.noPart("resize", NO_PART, 1, 2001, 1);
        Refused.test("resize: IllegalArgumentException if it is no SIGN", Scene.FURNISHED);
        for (int each : Scene.NO_SIGNS) {
            Refused.badArgument("resize", each, 1, 1, 1);
            Refused.badArgument("resize", each, 0, 0, 0);
        }
        Refused.test("resize: IllegalArgumentException if width, height or depth is not 0 to 2000", Scene.FURNISHED);
        for (int each : new int[] {FREE, OWNED}) {
            Refused.badArgument("resize", each, -1, 1, 1);
            Refused.badArgument("resize", each, 2001, 1, 1);
            Refused.badArgument("resize", each, 1, -1, 1);
            Refused.badArgument("resize", each, 1, 2001, 1);
            Refused.badArgument("resize", each, 1, 1, -1);
            Refused.badArgument("resize", each, 1, 1, 2001);
        }
    }
}
