/** What is empty or not there: a ROW, a MATRIX, the LINES, the TOP, and a new object. */
final class EmptyTest {
    private static final Class<?> INDEX = IndexOutOfBoundsException.class;
    private static final Class<?> ARGUMENT = IllegalArgumentException.class;
    private static final Class<?> STATE = IllegalStateException.class;

    public static void main(String[] args) {
        newObject();
        emptyRow();
        emptyRowAmongOthers();
        emptyMatrix();
        emptyPlaces();
        noLines();
        noTop();
        emptyTop();
        Check.end();
    }

    private static void newObject() {
        Check.test("a new object is without PARTS");
        Ropewalk x = new Ropewalk();
        Check.due("parts()", x.parts(), 0);
        String[] calls = {"put", "fraction", "root", "scripts", "fence", "fit", "bar", "resize", "ofPart", "size",
            "top", "place", "classAt", "gap", "breakRow", "linesWith", "roomFor", "widthWith", "line"};
        int[][] with = {{0, 0}, {0, 0}, {0, -1}, {0, -1, -1}, {0, 0, 0}, {0, 0, 0}, {0}, {0, 1, 1, 1}, {0, 0},
            {0, 0, 0}, {0, 0}, {0, 0}, {0, 0}, {0, 0}, {0, 1}, {0, 1}, {0, 1}, {0, 1}, {0, 0}};
        for (int i = 0; i < calls.length; i++) {
            String call = calls[i];
            int[] its = with[i];
            Check.noPart(Calls.told(call, its), x, () -> Calls.on(x, call, its));
        }
        Check.due("at()", x.at(0, 0), -1);
        Check.due("cost()", x.cost(), 0);
        Check.dueDouble("density()", x.density(), 0);
        Check.due("digest()", x.digest(), 58074L * 31 * 31 * 31);
    }

    private static void emptyRow() {
        Check.test("a ROW without PARTS: WIDTH, HEIGHT and DEPTH are 0");
        Ropewalk x = new Ropewalk();
        int row = x.row();
        Check.due("how many are in it", x.ofPart(row, 2), 0);
        for (int style = 0; style <= 3; style++) {
            Check.sizes(x, row, style, 0, 0, 0);
        }
        Check.test("a ROW without PARTS has no place");
        Check.badArgument("classAt()", x, () -> x.classAt(row, 0));
        Check.badArgument("gap()", x, () -> x.gap(row, 0));
        Check.test("a ROW without PARTS has no LINES");
        for (int room : new int[] {1, 100000}) {
            Check.due("linesWith()", x.linesWith(row, room), 0);
            Check.due("breakRow()", x.breakRow(row, room), 0);
            Check.due("cost()", x.cost(), 0);
            Check.noPart("line()", x, () -> x.line(0, 0));
        }
        Check.due("roomFor() of 1", x.roomFor(row, 1), 1);
        Check.due("roomFor() of 16", x.roomFor(row, 16), 1);
    }

    private static void emptyRowAmongOthers() {
        Check.test("an empty ROW is no SPACE: it has GAPS");
        Ropewalk x = new Ropewalk();
        int row = x.row();
        x.put(row, x.row());
        x.put(row, x.sign(1, 100, 0, 0));
        x.put(row, x.row());
        x.put(row, x.sign(2, 100, 0, 0));
        x.put(row, x.matrix(1, 1));
        x.put(row, x.sign(5, 100, 0, 0));
        x.put(row, x.row());
        int[] classes = {0, 1, 0, 2, 0, 5, 0};
        int[] gaps = {222, 222, 278, 278, 0, 167, 0};
        for (int place = 0; place < classes.length; place++) {
            Check.due("CLASS at " + place, x.classAt(row, place), classes[place]);
            Check.due("GAP behind " + place, x.gap(row, place), gaps[place]);
        }
        Check.due("WIDTH", x.size(row, 0, 0), 300 + 2 * 222 + 2 * 278 + 167);
        Check.due("WIDTH in STYLE 2", x.size(row, 2, 0), 210);
        Check.test("an empty ROW in other PARTS");
        Ropewalk y = new Ropewalk();
        Check.sizes(y, y.fraction(y.row(), y.row()), 0, 240, 390, 0);
        Check.sizes(y, y.root(y.row(), y.row()), 0, 500, 120, 0);
        Check.sizes(y, y.scripts(y.row(), y.row(), -1), 0, 50, 400, 0);
        Check.sizes(y, y.scripts(y.row(), -1, y.row()), 0, 50, 0, 150);
        Check.sizes(y, y.fence(y.row(), true, false), 0, 400, 550, 50);
        Check.sizes(y, y.bar(y.row()), 0, 0, 120, 0);
    }

    private static void emptyMatrix() {
        Check.test("a MATRIX with nothing in it");
        for (int rows = 1; rows <= 4; rows++) {
            for (int columns = 1; columns <= 4; columns++) {
                Ropewalk x = new Ropewalk();
                int matrix = x.matrix(rows, columns);
                Check.due("how many are in it", x.ofPart(matrix, 2), 0);
                int wide = 600 * (columns - 1);
                int t = 300 * (rows - 1);
                Check.sizes(x, matrix, 0, wide, t / 2 + 250, Math.max(0, t - t / 2 - 250));
                Check.sizes(x, matrix, 2, wide * 7 / 10, t * 7 / 20 + 175, Math.max(0, t * 7 / 20 - 175));
                Check.sizes(x, matrix, 3, wide / 2, t / 4 + 125, Math.max(0, t / 4 - 125));
                Check.due("top()", x.top(matrix, 1), 1);
            }
        }
    }

    private static void emptyPlaces() {
        Check.test("a column or a row of a MATRIX is 0 wide, high and deep without any");
        Ropewalk x = new Ropewalk();
        int matrix = x.matrix(3, 3);
        int one = x.sign(0, 100, 50, 30);
        x.fit(matrix, 4, one);
        Check.sizes(x, matrix, 0, 1300, 590, 90);
        x.top(matrix, 1);
        Check.lies(x, one, 1, 600, 590 - 300 - 50);
        Check.test("a PART without sizes is no other than none, but that it is there");
        x.fit(matrix, 0, x.sign(0, 0, 0, 0));
        x.fit(matrix, 8, x.row());
        Check.due("how many are in it", x.ofPart(matrix, 2), 3);
        Check.sizes(x, matrix, 0, 1300, 590, 90);
        Check.lies(x, 2, 1, 0, 590);
        Check.lies(x, 3, 1, 1300, 590 - 300 - 80 - 300);
    }

    private static void noLines() {
        Check.test("line, cost: without any LINES that are kept");
        Ropewalk x = new Ropewalk();
        int row = Check.rowOf(x, 0, 500, 2, 700, 0, 400);
        Check.noPart("line() ahead of breakRow()", x, () -> x.line(0, 0));
        Check.due("cost() ahead of breakRow()", x.cost(), 0);
        x.linesWith(row, 1);
        x.roomFor(row, 2);
        x.digest();
        Check.noPart("line() behind linesWith() and roomFor()", x, () -> x.line(0, 1));
        Check.due("cost() behind these", x.cost(), 0);
        Check.test("LINES are kept till the next time, when there may be none");
        Check.due("breakRow()", x.breakRow(row, 1), 1);
        Check.due("cost()", x.cost(), 1000000 + 1000 * 2155);
        Check.due("breakRow() of an empty ROW", x.breakRow(x.row(), 1), 0);
        Check.noPart("line()", x, () -> x.line(0, 0));
        Check.due("cost() of none", x.cost(), 0);
        Check.due("breakRow() again", x.breakRow(row, 2000), 2);
        Check.due("WIDTH of the LINE 1", x.line(1, 1), 400);
    }

    private static void noTop() {
        Check.test("without a TOP: place, at, widthWith, density");
        Ropewalk x = new Ropewalk();
        int sign = x.sign(0, 500, 600, 100);
        Check.thrown("place()", STATE, () -> x.place(sign, 0));
        Check.thrown("widthWith()", STATE, () -> x.widthWith(sign, 1));
        Check.thrown("place() of no PART", INDEX, () -> x.place(1, 0));
        Check.thrown("place() of 6", ARGUMENT, () -> x.place(sign, 6));
        Check.due("at()", x.at(0, 0), -1);
        Check.dueDouble("density()", x.density(), 0);
        Check.due("size()", x.size(sign, 0, 0), 500);
        x.top(sign, 0);
        Check.due("at() of the TOP", x.at(0, 0), sign);
        Check.dueDouble("density() of the TOP", x.density(), 1);
        Check.due("widthWith() of the TOP", x.widthWith(sign, 7), 7);
    }

    private static void emptyTop() {
        Check.test("a TOP that is empty, or has no WIDTH");
        Ropewalk x = new Ropewalk();
        int row = x.row();
        int matrix = x.matrix(1, 1);
        int sign = x.sign(0, 0, 2000, 2000);
        for (int top : new int[] {row, matrix, sign}) {
            Check.due("top()", x.top(top, 0), 1);
            Check.due("x", x.place(top, 1), 0);
            Check.due("y", x.place(top, 2), 0);
            Check.due("WIDTH", x.place(top, 3), 0);
            Check.due("at()", x.at(0, 0), -1);
            Check.dueDouble("density()", x.density(), 0);
        }
        Check.due("widthWith() of the TOP", x.widthWith(sign, 2000), 2000);
        x.top(row, 3);
        Check.due("widthWith() of another", x.widthWith(sign, 2000), 0);
        Check.due("put() into it", x.put(row, sign), 1);
        Check.due("it is in the TOP", x.place(sign, 0), 3);
        Check.due("widthWith() of one in it", x.widthWith(sign, 2000), 1000);
        Check.due("at() of no WIDTH", x.at(0, 0), -1);
        Check.test("density: 0 without SIGNS, or if these have no WIDTH");
        Ropewalk y = new Ropewalk();
        int space = y.space(100);
        y.top(space, 0);
        Check.dueDouble("of a SPACE", y.density(), 0);
        int fence = y.fence(y.sign(0, 0, 1, 1), true, true);
        y.top(fence, 0);
        Check.dueDouble("of a FENCE of no WIDTH", y.density(), 0);
    }
}
