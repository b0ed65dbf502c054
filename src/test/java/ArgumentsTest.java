/**
 * Each argument of each call: the least and the greatest that is allowed are answered, the first one beyond
 * each, and the farthest, refused. Each call has an object of its own.
 */
final class ArgumentsTest {
    private interface Maker {
        Ropewalk made();
    }

    private static final Class<?> INDEX = IndexOutOfBoundsException.class;
    private static final Class<?> ARGUMENT = IllegalArgumentException.class;

    private static Maker maker;
    private static String call;
    private static int[] with;

    public static void main(String[] args) {
        signAndSpace();
        put();
        fractionAndRoot();
        scripts();
        fenceAndBar();
        matrix();
        fit();
        resize();
        ofPartAndSize();
        topAndPlace();
        at();
        inRow();
        lines();
        whatWouldBe();
        Check.end();
    }

    private static void of(Maker itsMaker, String itsCall, int... itsArguments) {
        maker = itsMaker;
        call = itsCall;
        with = itsArguments;
    }

    private static int[] changed(int place, int value) {
        int[] all = with.clone();
        all[place] = value;
        return all;
    }

    private static void answered(int place, int value, long due) {
        int[] all = changed(place, value);
        Ropewalk x = maker.made();
        Check.due(Calls.told(call, all), Calls.on(x, call, all), due);
    }

    private static void refused(int place, int value, Class<?> due) {
        int[] all = changed(place, value);
        Ropewalk x = maker.made();
        Check.thrown(Calls.told(call, all), due, () -> Calls.on(x, call, all));
    }

    private static void edges(int place, int least, long answer, int greatest, long another, Class<?> beyond) {
        answered(place, least, answer);
        answered(place, greatest, another);
        refused(place, least - 1, beyond);
        refused(place, greatest + 1, beyond);
        refused(place, Integer.MIN_VALUE, beyond);
        refused(place, Integer.MAX_VALUE, beyond);
    }

    private static void signAndSpace() {
        of(Ropewalk::new, "sign", 0, 500, 600, 100);
        Check.test("sign: its CLASS is 0 to 5");
        edges(0, 0, 0, 5, 0, ARGUMENT);
        Check.test("sign: a width, a height and a depth, each 0 to 2000");
        edges(1, 0, 0, 2000, 0, ARGUMENT);
        edges(2, 0, 0, 2000, 0, ARGUMENT);
        edges(3, 0, 0, 2000, 0, ARGUMENT);
        Ropewalk x = new Ropewalk();
        Check.sizes(x, x.sign(0, 0, 0, 0), 1, 0, 0, 0);
        Check.sizes(x, x.sign(5, 2000, 2000, 2000), 1, 2000, 2000, 2000);
        Check.sizes(x, x.sign(1, 1, 1999, 0), 0, 1, 1999, 0);
        Check.test("space: a width, 0 to 2000");
        of(Ropewalk::new, "space", 500);
        edges(0, 0, 0, 2000, 0, ARGUMENT);
        Check.sizes(x, x.space(0), 1, 0, 0, 0);
        Check.sizes(x, x.space(2000), 1, 2000, 0, 0);
    }

    /** A ROW, a SIGN, and a ROW, or the other way round. */
    private static Ropewalk rowsOrSigns(boolean isRowFirst) {
        Ropewalk x = new Ropewalk();
        for (int i = 0; i < 3; i++) {
            if (isRowFirst == (i != 1)) {
                x.row();
            } else {
                x.sign(0, 100, 100, 100);
            }
        }
        return x;
    }

    private static void put() {
        Check.test("put: row is the number of a PART");
        of(() -> rowsOrSigns(true), "put", 0, 1);
        edges(0, 0, 1, 2, 1, INDEX);
        Check.test("put: part is the number of a PART");
        of(() -> rowsOrSigns(false), "put", 1, 0);
        edges(1, 0, 1, 2, 1, INDEX);
    }

    private static void fractionAndRoot() {
        Check.test("fraction: a and b are numbers of PARTS");
        of(() -> Check.signs(4), "fraction", 1, 2);
        edges(0, 0, 4, 3, 4, INDEX);
        edges(1, 0, 4, 3, 4, INDEX);
        Check.test("root: a is the number of a PART");
        of(() -> Check.signs(4), "root", 1, 2);
        edges(0, 0, 4, 3, 4, INDEX);
        of(() -> Check.signs(4), "root", 1, -1);
        edges(0, 0, 4, 3, 4, INDEX);
        Check.test("root: b is the number of a PART; -1 for none");
        of(() -> Check.signs(4), "root", 1, 2);
        edges(1, -1, 4, 3, 4, INDEX);
        answered(1, 0, 4);
    }

    private static void scripts() {
        Check.test("scripts: a is the number of a PART");
        of(() -> Check.signs(5), "scripts", 1, 2, 3);
        edges(0, 0, 5, 4, 5, INDEX);
        Check.test("scripts: b and c are numbers of PARTS; -1 for none");
        edges(1, -1, 5, 4, 5, INDEX);
        answered(1, 0, 5);
        edges(2, -1, 5, 4, 5, INDEX);
        answered(2, 0, 5);
        of(() -> Check.signs(5), "scripts", 1, -1, 3);
        edges(2, 0, 5, 4, 5, -1);
        of(() -> Check.signs(5), "scripts", 1, 3, -1);
        edges(1, 0, 5, 4, 5, -1);
    }

    /** As above, but that one below the least is none, which is wrong in another way here. */
    private static void edges(int place, int least, long answer, int greatest, long another, int none) {
        answered(place, least, answer);
        answered(place, greatest, another);
        refused(place, none, ARGUMENT);
        refused(place, none - 1, INDEX);
        refused(place, greatest + 1, INDEX);
        refused(place, Integer.MIN_VALUE, INDEX);
        refused(place, Integer.MAX_VALUE, INDEX);
    }

    private static void fenceAndBar() {
        Check.test("fence: a is the number of a PART");
        of(() -> Check.signs(3), "fence", 1, 1, 1);
        edges(0, 0, 3, 2, 3, INDEX);
        Check.test("fence: on the left, on the right, or both");
        answered(1, 0, 3);
        answered(2, 0, 3);
        of(() -> Check.signs(3), "fence", 1, 0, 0);
        answered(1, 1, 3);
        answered(2, 1, 3);
        refused(1, 0, ARGUMENT);
        Check.test("bar: a is the number of a PART");
        of(() -> Check.signs(3), "bar", 1);
        edges(0, 0, 3, 2, 3, INDEX);
    }

    private static void matrix() {
        Check.test("matrix: rows, 1 to 4");
        of(Ropewalk::new, "matrix", 2, 3);
        edges(0, 1, 0, 4, 0, ARGUMENT);
        refused(0, 0, ARGUMENT);
        Check.test("matrix: columns, 1 to 4");
        edges(1, 1, 0, 4, 0, ARGUMENT);
        refused(1, 0, ARGUMENT);
        Check.test("matrix: the least and the greatest");
        of(Ropewalk::new, "matrix", 1, 1);
        edges(0, 1, 0, 4, 0, ARGUMENT);
        edges(1, 1, 0, 4, 0, ARGUMENT);
        of(Ropewalk::new, "matrix", 4, 4);
        edges(0, 1, 0, 4, 0, ARGUMENT);
        edges(1, 1, 0, 4, 0, ARGUMENT);
    }

    private static Ropewalk matrixAndSign(int rows, int columns) {
        Ropewalk x = new Ropewalk();
        x.matrix(rows, columns);
        x.sign(0, 100, 100, 100);
        x.matrix(rows, columns);
        return x;
    }

    private static void fit() {
        Check.test("fit: matrix is the number of a PART");
        of(() -> matrixAndSign(1, 1), "fit", 0, 0, 1);
        edges(0, 0, 1, 2, 1, INDEX);
        Check.test("fit: place is row * columns + column, both from 0");
        for (int rows = 1; rows <= 4; rows++) {
            for (int columns = 1; columns <= 4; columns++) {
                int its = rows;
                int their = columns;
                of(() -> matrixAndSign(its, their), "fit", 0, 0, 1);
                edges(1, 0, 1, rows * columns - 1, 1, ARGUMENT);
            }
        }
        Check.test("fit: part is the number of a PART");
        of(() -> {
            Ropewalk x = Check.signs(1);
            x.matrix(1, 1);
            x.sign(0, 1, 1, 1);
            return x;
        }, "fit", 1, 0, 0);
        edges(2, 0, 1, 2, 1, INDEX);
    }

    private static void resize() {
        Check.test("resize: part is the number of a PART");
        of(() -> Check.signs(3), "resize", 1, 500, 600, 700);
        edges(0, 0, 100, 2, 100, INDEX);
        Check.test("resize: width, height and depth are 0 to 2000");
        edges(1, 0, 100, 2000, 100, ARGUMENT);
        edges(2, 0, 100, 2000, 100, ARGUMENT);
        edges(3, 0, 100, 2000, 100, ARGUMENT);
        Ropewalk x = Check.signs(1);
        x.resize(0, 2000, 2000, 2000);
        Check.sizes(x, 0, 1, 2000, 2000, 2000);
        Check.due("to the least", x.resize(0, 0, 0, 0), 2000);
        Check.sizes(x, 0, 1, 0, 0, 0);
        Check.due("from the least", x.resize(0, 1, 2, 3), 0);
    }

    private static void ofPartAndSize() {
        Check.test("ofPart: part is the number of a PART");
        of(() -> Check.signs(3), "ofPart", 1, 1);
        edges(0, 0, -1, 2, -1, INDEX);
        of(Check::full, "ofPart", 1, 1);
        edges(0, 0, -1, 59, -1, INDEX);
        Check.test("ofPart: what is 0 to 2");
        edges(1, 0, 0, 2, 0, ARGUMENT);
        Check.test("size: part is the number of a PART");
        of(() -> Check.signs(3), "size", 1, 0, 0);
        edges(0, 0, 100, 2, 100, INDEX);
        of(Check::full, "size", 1, 0, 0);
        edges(0, 0, 100, 59, 100, INDEX);
        Check.test("size: style is 0 to 3");
        edges(1, 0, 100, 3, 50, ARGUMENT);
        Check.test("size: what is 0 to 2");
        edges(2, 0, 100, 2, 100, ARGUMENT);
    }

    private static void topAndPlace() {
        Check.test("top: part is the number of a PART");
        of(() -> Check.signs(3), "top", 1, 0);
        edges(0, 0, 1, 2, 1, INDEX);
        Check.test("top: style is 0 to 3");
        edges(1, 0, 1, 3, 1, ARGUMENT);
        of(() -> {
            Ropewalk x = Check.signs(2);
            x.top(x.fraction(0, 1), 3);
            return x;
        }, "place", 1, 4);
        Check.test("place: part is the number of a PART");
        edges(0, 0, 50, 2, 265, INDEX);
        Check.test("place: what is 0 to 5");
        edges(1, 0, 3, 5, 50, ARGUMENT);
    }

    private static void at() {
        Check.test("at: an x and a y, whatever they are");
        int[] all = {Integer.MIN_VALUE, Integer.MIN_VALUE + 1, -1, 0, Integer.MAX_VALUE - 1, Integer.MAX_VALUE};
        Ropewalk none = Check.signs(1);
        Ropewalk one = Check.signs(1);
        one.top(0, 0);
        for (int x : all) {
            for (int y : all) {
                boolean isIn = x == 0 && (y == -1 || y == 0);
                Check.due(Calls.told("at", x, y) + " without a TOP", none.at(x, y), -1);
                Check.due(Calls.told("at", x, y), one.at(x, y), isIn ? 0 : -1);
            }
        }
    }

    /** ROWS are the PARTS 0, with 16, and 18, with one, and 19, without any. */
    private static Ropewalk rows() {
        Ropewalk x = new Ropewalk();
        x.row();
        for (int i = 0; i < 16; i++) {
            x.put(0, x.sign(2, 100, 0, 0));
        }
        int last = x.sign(4, 100, 0, 0);
        x.put(x.row(), last);
        x.row();
        return x;
    }

    private static void inRow() {
        Check.test("classAt: row is the number of a PART");
        of(() -> {
            Ropewalk x = Check.signs(1);
            x.put(x.row(), 0);
            x.put(x.row(), 1);
            return x;
        }, "classAt", 1, 0);
        refused(0, 0, ARGUMENT);
        answered(0, 1, 0);
        answered(0, 2, 0);
        refused(0, -1, INDEX);
        refused(0, 3, INDEX);
        Check.test("classAt: place is one in it, from 0");
        of(ArgumentsTest::rows, "classAt", 0, 0);
        edges(1, 0, 2, 15, 2, ARGUMENT);
        of(ArgumentsTest::rows, "classAt", 18, 0);
        edges(1, 0, 4, 0, 4, ARGUMENT);
        of(ArgumentsTest::rows, "classAt", 19, 0);
        refused(1, 0, ARGUMENT);
        Check.test("gap: row is the number of a PART");
        of(ArgumentsTest::rows, "gap", 18, 0);
        answered(0, 0, 0);
        answered(0, 18, 0);
        refused(0, 19, ARGUMENT);
        refused(0, 20, INDEX);
        refused(0, -1, INDEX);
        Check.test("gap: place is one in it, from 0");
        of(ArgumentsTest::rows, "gap", 0, 0);
        edges(1, 0, 0, 15, 0, ARGUMENT);
        of(ArgumentsTest::rows, "gap", 18, 0);
        edges(1, 0, 0, 0, 0, ARGUMENT);
        of(ArgumentsTest::rows, "gap", 19, 0);
        refused(1, 0, ARGUMENT);
    }

    private static void lines() {
        for (String each : new String[] {"breakRow", "linesWith"}) {
            Check.test(each + ": row is the number of a PART");
            of(ArgumentsTest::rows, each, 0, 1600);
            edges(0, 0, 1, 19, 0, INDEX);
            Check.test(each + ": room is 1 to 100000");
            edges(1, 1, 1, 100000, 1, ARGUMENT);
            of(ArgumentsTest::rows, each, 19, 1600);
            edges(1, 1, 0, 100000, 0, ARGUMENT);
        }
        of(() -> {
            Ropewalk x = rows();
            x.breakRow(0, 400);
            return x;
        }, "line", 0, 0);
        Check.test("line: a LINE, from 0");
        edges(0, 0, 4, 3, 4, INDEX);
        Check.test("line: what is 0 or 1");
        edges(1, 0, 4, 1, 400, ARGUMENT);
    }

    private static void whatWouldBe() {
        Check.test("roomFor: row is the number of a PART");
        of(ArgumentsTest::rows, "roomFor", 18, 1);
        edges(0, 0, 1600, 19, 1, INDEX);
        Check.test("roomFor: lines is 1 to 16");
        of(ArgumentsTest::rows, "roomFor", 0, 4);
        edges(1, 1, 1600, 16, 100, ARGUMENT);
        of(() -> {
            Ropewalk x = Check.signs(2);
            int row = x.row();
            x.put(row, 0);
            x.sign(0, 100, 100, 100);
            x.top(row, 0);
            return x;
        }, "widthWith", 0, 10);
        Check.test("widthWith: part is the number of a PART");
        edges(0, 0, 10, 3, 100, INDEX);
        Check.test("widthWith: width is 0 to 2000");
        edges(1, 0, 0, 2000, 2000, ARGUMENT);
    }
}
