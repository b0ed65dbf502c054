/** What is full: 60 PARTS, a ROW of 16, a MATRIX of 4 and 4, 16 LINES, and 60 PARTS in one another. */
final class FullTest {
    public static void main(String[] args) {
        sixtyParts();
        whatGoesOn();
        fullRow();
        fullMatrix();
        sixteenLines();
        rowsInOneAnother();
        matricesInOneAnother();
        alternatingOwners();
        greatSizes();
        greatRoot();
        Check.end();
    }

    /** Each call that adds a PART, on one of 59 SIGNS. */
    private static void sixtyParts() {
        String[] calls = {"sign", "space", "row", "fraction", "root", "root", "scripts", "scripts", "scripts",
            "fence", "matrix", "bar"};
        int[][] with = {{0, 1, 1, 1}, {1}, {}, {0, 58}, {58, -1}, {0, 58}, {0, 1, 58}, {58, 0, -1}, {1, -1, 0},
            {58, 1, 1}, {4, 4}, {58}};
        int[][] again = {{0, 1, 1, 1}, {1}, {}, {1, 2}, {1, -1}, {1, 2}, {2, 3, 4}, {2, 3, -1}, {2, -1, 3},
            {1, 1, 1}, {4, 4}, {1}};
        for (int i = 0; i < calls.length; i++) {
            String call = calls[i];
            int[] second = again[i];
            Check.test("at most 60, numbered from 0: " + Calls.told(call, with[i]));
            Ropewalk x = Check.signs(59);
            Check.due("parts() of 59", x.parts(), 59);
            Check.due("the 60th one", Calls.on(x, call, with[i]), 59);
            Check.due("parts() of 60", x.parts(), 60);
            Check.due("ofPart() of the last one", x.ofPart(59, 1), -1);
            Check.badState("a 61st one", x, () -> Calls.on(x, call, second));
            Check.due("parts() as before", x.parts(), 60);
            Check.noPart("the PART 60", x, () -> x.ofPart(60, 0));
        }
    }

    private static void whatGoesOn() {
        Check.test("with 60 PARTS all calls go on that add none");
        Ropewalk x = Check.signs(57);
        int row = x.row();
        int matrix = x.matrix(2, 2);
        int last = x.row();
        Check.due("put()", x.put(row, 0), 1);
        Check.due("put() of the last one", x.put(row, last), 2);
        Check.due("put() into the last one", x.put(last, 1), 1);
        Check.due("fit()", x.fit(matrix, 3, 2), 1);
        Check.due("fit() of a ROW", x.fit(matrix, 0, row), 2);
        Check.due("resize()", x.resize(56, 7, 7, 7), 100);
        Check.due("top()", x.top(matrix, 0), 6);
        Check.due("place() of the last one", x.place(last, 1), 100);
        Check.due("breakRow()", x.breakRow(last, 1), 1);
        Check.due("widthWith()", x.widthWith(1, 101), 901);
    }

    private static void fullRow() {
        Check.test("put: IllegalStateException if it has 16");
        Ropewalk x = new Ropewalk();
        int row = x.row();
        int other = x.row();
        for (int i = 1; i <= 16; i++) {
            Check.due("put() of SIGN " + i, x.put(row, x.sign(2, i, i, 2 * i)), i);
            Check.due("how many are in it", x.ofPart(row, 2), i);
        }
        int next = x.sign(2, 17, 17, 17);
        Check.badState("a 17th one", x, () -> x.put(row, next));
        Check.badState("the first one again", x, () -> x.put(row, 2));
        Check.due("how many are in it", x.ofPart(row, 2), 16);
        Check.due("the 17th one, elsewhere", x.put(other, next), 1);
        Check.due("top() of the full ROW", x.top(row, 0), 17);
        Check.sizes(x, row, 0, 136, 16, 32);
        Check.lies(x, 17, 0, 120, 0);
        Check.due("CLASS of the last one", x.classAt(row, 15), 2);
        Check.due("GAP behind the last one", x.gap(row, 15), 0);
        Check.due("the full ROW in another, as no TOP", x.top(other, 0), 2);
        Check.due("put() of the full ROW", x.put(other, row), 2);
        int last = x.space(1);
        Check.badState("a 17th one, into the ROW in the other", x, () -> x.put(row, last));
    }

    private static void fullMatrix() {
        Check.test("MATRIX: in each place a PART");
        Ropewalk x = new Ropewalk();
        int matrix = x.matrix(4, 4);
        for (int i = 1; i <= 16; i++) {
            // from the last place to the first one
            Check.due("fit() of SIGN " + i, x.fit(matrix, 16 - i, x.sign(0, i, 10, 10)), i);
            Check.due("how many are in it", x.ofPart(matrix, 2), i);
        }
        int next = x.sign(0, 1, 1, 1);
        for (int place = 0; place < 16; place++) {
            int taken = place;
            Check.thrown("the place " + place, IllegalStateException.class, () -> x.fit(matrix, taken, next));
        }
        Check.badArgument("the place 16", x, () -> x.fit(matrix, 16, next));
        Check.due("how many are in it", x.ofPart(matrix, 2), 16);
        Check.due("top()", x.top(matrix, 0), 17);
        // 16 + 15 + 14 + 13 wide, 4 * 20 high, with 3 spaces between
        Check.sizes(x, matrix, 0, 58 + 1800, 490 + 250, 980 - 740);
        Check.lies(x, 16, 1, 0, 730);
        Check.lies(x, 1, 1, 45 + 1800 + 6, 730 - 960);
    }

    private static void sixteenLines() {
        Check.test("16 LINES of a ROW of 16");
        Ropewalk x = new Ropewalk();
        int row = x.row();
        for (int i = 0; i < 16; i++) {
            x.put(row, x.sign(2, 100 + i % 2, 0, 0));
        }
        Check.due("breakRow()", x.breakRow(row, 101), 16);
        for (int i = 0; i < 16; i++) {
            Check.due("parts of LINE " + i, x.line(i, 0), 1);
            Check.due("WIDTH of LINE " + i, x.line(i, 1), 100 + i % 2);
        }
        Check.noPart("LINE 16", x, () -> x.line(16, 0));
        Check.due("linesWith()", x.linesWith(row, 101), 16);
        Check.due("roomFor() of 16", x.roomFor(row, 16), 101);
        Check.due("roomFor() of 15", x.roomFor(row, 15), 201);
        Check.due("roomFor() of 1", x.roomFor(row, 1), 1608);
    }

    /** The inner ones are told later than the outer ones. */
    private static void rowsInOneAnother() {
        Check.test("60 ROWS in one another");
        Ropewalk x = new Ropewalk();
        for (int i = 0; i < 60; i++) {
            x.row();
        }
        for (int i = 58; i >= 0; i--) {
            Check.due("put() into ROW " + i, x.put(i, i + 1), 1);
        }
        for (int outer = 0; outer < 60; outer += 7) {
            int its = outer;
            Check.badState("the ROW " + its + " into the innermost one", x, () -> x.put(59, its));
        }
        Check.due("top()", x.top(0, 2), 60);
        Check.due("STYLE of the innermost one", x.place(59, 0), 2);
        Check.badState("the outermost one, which is the TOP", x, () -> x.put(59, 0));
        Check.test("60 PARTS in one another: at");
        Ropewalk y = new Ropewalk();
        for (int i = 0; i < 59; i++) {
            y.row();
        }
        int sign = y.sign(0, 10, 10, 10);
        for (int i = 0; i < 59; i++) {
            y.put(i, i + 1);
        }
        Check.due("top()", y.top(0, 0), 60);
        Check.due("at()", y.at(9, 9), sign);
        Check.due("WIDTH of all", y.place(0, 3), 10);
        Check.due("widthWith()", y.widthWith(sign, 2000), 2000);
        Check.due("linesWith()", y.linesWith(0, 1), 1);
    }

    private static void matricesInOneAnother() {
        Check.test("60 MATRICES in one another");
        Ropewalk x = new Ropewalk();
        for (int i = 0; i < 60; i++) {
            x.matrix(1, 1);
        }
        for (int i = 0; i < 59; i++) {
            Check.due("fit() into MATRIX " + i, x.fit(i, 0, i + 1), 1);
        }
        for (int outer = 0; outer < 60; outer += 7) {
            int its = outer;
            Check.badState("the MATRIX " + its + " into the innermost one", x, () -> x.fit(59, 0, its));
        }
        Check.due("top()", x.top(0, 0), 60);
        Check.due("STYLE of the TOP", x.place(0, 0), 0);
        Check.due("STYLE of the innermost one", x.place(59, 0), 1);
        // 250 high and 0 deep; in the next one t is 250, and so 375 high; from then on 437, 468, ..
        Check.due("HEIGHT of the innermost one", x.size(59, 1, 1), 250);
        Check.due("HEIGHT of the next one", x.size(58, 1, 1), 375);
        Check.due("HEIGHT of the one around", x.size(57, 1, 1), 437);
        Check.due("DEPTH of the one around", x.size(57, 1, 2), 0);
        Check.due("HEIGHT of all", x.size(0, 0, 1), 499);
    }

    private static void alternatingOwners() {
        Check.test("60 PARTS in one another, of all kinds");
        Ropewalk x = new Ropewalk();
        int last = x.sign(0, 1000, 10, 10);
        for (int i = 0; x.parts() <= 57; i++) {
            last = around(x, i % 7, last);
        }
        int all = x.parts();
        Check.due("top()", x.top(last, 0), all);
        Check.due("at() the SIGN", x.at(x.place(0, 1), x.place(0, 2)), 0);
        Check.due("STYLE of the SIGN", x.place(0, 0), 3);
        Check.due("WIDTH of the SIGN", x.place(0, 3), 500);
        int outermost = 0;
        for (int part = 0; part < all; part++) {
            outermost += x.ofPart(part, 1) == -1 ? 1 : 0;
        }
        Check.due("PARTS without an OWNER", outermost, 1);
    }

    private static int around(Ropewalk x, int kind, int part) {
        switch (kind) {
            case 0:
                return x.fraction(part, x.space(1));
            case 1:
                return x.root(part, -1);
            case 2:
                return x.scripts(part, -1, x.space(1));
            case 3:
                return x.fence(part, true, true);
            case 4:
                return x.bar(part);
            case 5:
                int row = x.row();
                x.put(row, part);
                return row;
            default:
                int matrix = x.matrix(1, 1);
                x.fit(matrix, 0, part);
                return matrix;
        }
    }

    /** A FRACTION in a FENCE is twice as high and deep as what is over its line; HEIGHT and DEPTH are those in STYLE 3. */
    private static long[] doubled(long[] inner) {
        long high = 125 + 10 + 30 + inner[1] + inner[0];
        long reach = (high - 125 + 149) / 150 * 150;
        return new long[] {125 + reach, reach - 125};
    }

    private static int doubled(Ropewalk x, int inner) {
        return x.fence(x.fraction(inner, x.space(0)), true, false);
    }

    private static void greatSizes() {
        Check.test("60 PARTS: the greatest HEIGHT and DEPTH");
        Ropewalk x = new Ropewalk();
        int last = x.fraction(x.sign(0, 0, 2000, 2000), x.sign(0, 0, 2000, 2000));
        // the upper one lies 165 + 1000 above the line, the lower one 40 + 1000 - 125 below it
        long[] due = {2165, 1915};
        while (x.parts() < 60) {
            last = doubled(x, last);
            due = doubled(due);
        }
        Check.holds("both are above 1000000000", due[0] > 1000000000 && due[1] > 1000000000);
        Check.due("HEIGHT", x.size(last, 3, 1), due[0]);
        Check.due("DEPTH", x.size(last, 3, 2), due[1]);
        Check.due("top()", x.top(last, 3), 60);
        Check.due("HEIGHT in the TOP", x.place(last, 4), due[0]);
        Check.due("DEPTH in the TOP", x.place(last, 5), due[1]);
        Check.due("the highest y", x.at(0, (int) due[0] - 1), last);
        Check.due("above it", x.at(0, (int) due[0]), -1);
        Check.due("the lowest y", x.at(0, (int) -due[1]), last);
        Check.due("below it", x.at(0, (int) -due[1] - 1), -1);
    }

    private static void greatRoot() {
        Check.test("60 PARTS: an index whose y is reckoned with numbers beyond an int's");
        Ropewalk x = new Ropewalk();
        int last = x.sign(0, 0, 2000, 2000);
        long[] its = {1000, 1000};
        while (x.parts() < 57) {
            last = doubled(x, last);
            its = doubled(its);
        }
        int index = x.space(0);
        int root = x.root(last, index);
        long sum = its[0] + 60 + its[1];
        Check.holds("60 times the sum is beyond an int's", sum * 60 > Integer.MAX_VALUE);
        x.top(root, 3);
        Check.due("y of the index", x.place(index, 2), sum * 60 / 100 - its[1]);
        Check.due("HEIGHT", x.place(root, 4), its[0] + 60);
        Check.due("DEPTH", x.place(root, 5), its[1]);
    }
}
