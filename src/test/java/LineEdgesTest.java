/** Terms 4, sentence by sentence: where a ROW is broken, what a LINE costs, and which way is the BEST. */
final class LineEdgesTest {
    public static void main(String[] args) {
        behindWhat();
        behindReckoned();
        lastOne();
        needNotBe();
        widths();
        inStyleOne();
        wider();
        loose();
        breaksCost();
        bestWay();
        greatNumbers();
        kept();
        roomFor();
        roomForWide();
        Check.end();
    }

    private static void behindWhat() {
        Check.test("broken behind PARTS whose CLASS there is RELATING, JOINING or a COMMA");
        int[] lines = {1, 2, 2, 1, 1, 2};
        int[] gaps = {0, 222, 278, 0, 0, 0};
        for (int itsClass = 0; itsClass <= 5; itsClass++) {
            Ropewalk x = new Ropewalk();
            int row = Check.rowOf(x, 0, 1000, itsClass, 1000, 0, 1000);
            Check.due("LINES with the CLASS " + itsClass, x.breakRow(row, 2600), lines[itsClass]);
            Check.due("linesWith()", x.linesWith(row, 2600), lines[itsClass]);
            Check.due("parts of the first LINE", x.line(0, 0), lines[itsClass] == 1 ? 3 : 2);
            Check.due("its WIDTH", x.line(0, 1), lines[itsClass] == 1 ? 3000 : 2000 + gaps[itsClass]);
        }
        Check.test("not behind a SPACE, or a PART that is no SIGN");
        Ropewalk x = new Ropewalk();
        int row = x.row();
        x.put(row, x.space(1000));
        x.put(row, x.bar(x.sign(2, 1000, 0, 0)));
        x.put(row, x.fence(x.sign(5, 1000, 0, 0), true, true));
        x.put(row, x.row());
        x.put(row, x.sign(2, 0, 0, 0));
        Check.due("LINES", x.breakRow(row, 1), 1);
        Check.due("parts of the LINE", x.line(0, 0), 5);
    }

    private static void behindReckoned() {
        Check.test("whose CLASS there: a JOINING one that is PLAIN there is none of these");
        int[][] rows = {{1, 1000, 0, 1000, 0, 1000}, {0, 1000, 1, 1000, 4, 1000}, {3, 1000, 1, 1000, 0, 1000},
            {0, 1000, 0, 1000, 1, 1000}};
        for (int[] each : rows) {
            Ropewalk x = new Ropewalk();
            Check.due("LINES", x.linesWith(Check.rowOf(x, each), 1), 1);
        }
        Ropewalk x = new Ropewalk();
        int row = Check.rowOf(x, 0, 1000, 1, 0, 1, 0, 0, 1000);
        // the first one joins, and the second one is PLAIN
        Check.due("LINES of two JOINING ones", x.breakRow(row, 1222), 2);
        Check.kept(x, new int[] {2, 2}, new int[] {1222, 1000}, 200);
    }

    private static void lastOne() {
        Check.test("broken behind these, but the last one");
        for (int itsClass : new int[] {2, 5}) {
            Ropewalk x = new Ropewalk();
            int one = Check.rowOf(x, itsClass, 1000);
            Check.due("LINES of one", x.breakRow(one, 999), 1);
            Check.kept(x, new int[] {1}, new int[] {1000}, 1001000);
            Check.due("LINES of one that fits", x.breakRow(one, 100000), 1);
            Check.kept(x, new int[] {1}, new int[] {1000}, 0);
            int two = Check.rowOf(x, 0, 1000, itsClass, 0);
            Check.due("LINES of two", x.breakRow(two, 1), 1);
            Check.due("parts of the LINE", x.line(0, 0), 2);
        }
    }

    private static void needNotBe() {
        Check.test("it need not be broken");
        Ropewalk x = new Ropewalk();
        int row = Check.rowOf(x, 2, 100, 2, 100, 2, 100, 2, 100);
        Check.due("LINES in a room of 400", x.breakRow(row, 400), 1);
        Check.kept(x, new int[] {4}, new int[] {400}, 0);
        Check.due("LINES in a room of 399", x.breakRow(row, 399), 2);
        Check.kept(x, new int[] {3, 1}, new int[] {300, 100}, 9);
        Check.due("LINES in the greatest room", x.breakRow(row, 100000), 1);
        Check.kept(x, new int[] {4}, new int[] {400}, 0);
    }

    private static void widths() {
        Check.test("each LINE has the WIDTH of its PARTS, with the GAPS between two of them");
        Ropewalk x = new Ropewalk();
        int row = x.row();
        x.put(row, x.space(7));
        x.put(row, x.sign(0, 1000, 0, 0));
        x.put(row, x.sign(2, 100, 0, 0));
        x.put(row, x.space(30));
        x.put(row, x.sign(0, 1000, 0, 0));
        x.put(row, x.sign(5, 100, 0, 0));
        x.put(row, x.sign(0, 1000, 0, 0));
        x.put(row, x.space(9));
        Check.due("breakRow()", x.breakRow(row, 1400), 3);
        // the SPACES stay, wherever they are, and a GAP is left out where the ROW is broken
        Check.due("WIDTH of the first LINE", x.line(0, 1), 7 + 1000 + 278 + 100);
        Check.due("WIDTH of the second LINE", x.line(1, 1), 30 + 1000 + 100);
        Check.due("WIDTH of the third LINE", x.line(2, 1), 1000 + 9);
        Check.due("cost()", x.cost(), 0 + 270 * 270 / 1000 + 500);
        Check.test("by the CLASSES of the whole ROW");
        int joined = Check.rowOf(x, 0, 1000, 1, 100, 0, 1000);
        // alone in its LINE, the JOINING one would be the last one, and PLAIN
        Check.due("breakRow()", x.breakRow(joined, 1322), 2);
        Check.kept(x, new int[] {2, 1}, new int[] {1322, 1000}, 200);
    }

    private static void inStyleOne() {
        Check.test("a ROW is broken in the STYLE 1, whatever the TOP's STYLE is");
        for (int style = 0; style <= 3; style++) {
            Ropewalk x = new Ropewalk();
            int row = x.row();
            x.put(row, x.fraction(x.sign(0, 1000, 0, 0), x.sign(0, 0, 0, 0)));
            x.put(row, x.sign(2, 100, 0, 0));
            x.put(row, x.sign(0, 1000, 0, 0));
            x.top(row, style);
            Check.due("breakRow()", x.breakRow(row, 1318), 2);
            Check.kept(x, new int[] {2, 1}, new int[] {700 + 240 + 278 + 100, 1000}, 0);
            Check.due("roomFor()", x.roomFor(row, 1), 2596);
            Check.due("gap()", x.gap(row, 0), 278);
        }
    }

    private static void wider() {
        Check.test("COST: if it is wider, 1000000 + 1000 * by how much");
        Ropewalk x = new Ropewalk();
        int row = Check.rowOf(x, 0, 1000);
        int[][] due = {{1001, 0}, {1000, 0}, {999, 1001000}, {998, 1002000}, {1, 1999000}, {100000, 0}};
        for (int[] each : due) {
            Check.due("breakRow()", x.breakRow(row, each[0]), 1);
            Check.kept(x, new int[] {1}, new int[] {1000}, each[1]);
        }
        Check.test("COST: two LINES that are wider, or one that is still wider");
        int two = Check.rowOf(x, 2, 1000, 2, 1000);
        // one LINE: 1000000 + 1000 * (2000 - room); two: 2000000 + 2000 * (1000 - room): the same for the room 0 only
        Check.due("LINES in a room of 1", x.breakRow(two, 1), 1);
        Check.kept(x, new int[] {2}, new int[] {2000}, 2999000);
        Check.due("LINES in a room of 999", x.breakRow(two, 999), 1);
        Check.kept(x, new int[] {2}, new int[] {2000}, 2001000);
        Check.due("LINES in a room of 1000", x.breakRow(two, 1000), 2);
        Check.kept(x, new int[] {1, 1}, new int[] {1000, 1000}, 0);
    }

    private static void loose() {
        Check.test("COST: if it is not the last one, (room - WIDTH) * (room - WIDTH) / 1000, cut");
        int[][] due = {{1000, 0}, {1031, 0}, {1032, 1}, {1044, 1}, {1045, 2}, {1999, 998}};
        for (int[] each : due) {
            Ropewalk x = new Ropewalk();
            int row = Check.rowOf(x, 2, 1000, 2, 1000);
            Check.due("breakRow()", x.breakRow(row, each[0]), 2);
            Check.kept(x, new int[] {1, 1}, new int[] {1000, 1000}, each[1]);
        }
        Check.test("COST: the last one costs nothing, however loose it is");
        Ropewalk x = new Ropewalk();
        int row = Check.rowOf(x, 2, 2000, 0, 0);
        Check.due("breakRow()", x.breakRow(row, 2000), 2);
        Check.kept(x, new int[] {1, 1}, new int[] {2000, 0}, 0);
        Check.due("breakRow() of one", x.breakRow(row, 100000), 1);
        Check.kept(x, new int[] {2}, new int[] {2278}, 0);
    }

    private static void breaksCost() {
        Check.test("COST: 0, 200 or 500 more, behind a RELATING one, a JOINING one, or a COMMA");
        int[] classes = {2, 1, 5};
        int[] more = {0, 200, 500};
        for (int i = 0; i < 3; i++) {
            Ropewalk x = new Ropewalk();
            int row = x.row();
            x.put(row, x.sign(0, 1000, 0, 0));
            x.put(row, x.space(0));
            x.put(row, x.sign(classes[i], 0, 0, 0));
            x.put(row, x.space(0));
            x.put(row, x.sign(0, 1000, 0, 0));
            Check.due("breakRow()", x.breakRow(row, 1000), 2);
            Check.kept(x, new int[] {3, 2}, new int[] {1000, 1000}, more[i]);
            Check.due("breakRow(), loose", x.breakRow(row, 1100), 2);
            Check.kept(x, new int[] {3, 2}, new int[] {1000, 1000}, 10 + more[i]);
            x.resize(5, 900, 0, 0);
            Check.due("breakRow(), wider", x.breakRow(row, 999), 2);
            Check.kept(x, new int[] {3, 2}, new int[] {1000, 900}, 1001000 + more[i]);
        }
    }

    private static void bestWay() {
        Check.test("BEST: the least COST of all LINES together");
        Ropewalk x = new Ropewalk();
        int row = Check.rowOf(x, 0, 900, 5, 0, 0, 0, 2, 0, 0, 900);
        // behind the COMMA 500 and 309 more; behind the RELATING one, of 1345, 12
        Check.due("behind the RELATING one", x.breakRow(row, 1456), 2);
        Check.kept(x, new int[] {4, 1}, new int[] {1345, 900}, 12);
        Check.due("behind the RELATING one that just fits", x.breakRow(row, 1345), 2);
        Check.kept(x, new int[] {4, 1}, new int[] {1345, 900}, 0);
        Check.due("behind both, as one of two LINES would be wider", x.breakRow(row, 1344), 3);
        Check.kept(x, new int[] {2, 2, 1}, new int[] {900, 278, 900}, 197 + 500 + 1136);
        Check.test("BEST: of several the fewest LINES");
        int three = Check.rowOf(x, 2, 10, 2, 10, 2, 10);
        Check.due("one, as all ways cost 0", x.breakRow(three, 30), 1);
        Check.due("two", x.breakRow(three, 29), 2);
        Check.kept(x, new int[] {2, 1}, new int[] {20, 10}, 0);
        fewestLines();
        Check.test("BEST: of several the one whose first LINE has the most PARTS");
        int four = Check.rowOf(x, 2, 10, 2, 10, 2, 10, 2, 10);
        Check.due("of 3 and 1, 2 and 2, 1 and 3", x.breakRow(four, 35), 2);
        Check.kept(x, new int[] {3, 1}, new int[] {30, 10}, 0);
        Check.test("BEST: of several the second one, and so on");
        int five = Check.rowOf(x, 2, 10, 2, 10, 2, 10, 2, 10, 2, 10);
        Check.due("of 2, 2, 1 and 2, 1, 2", x.breakRow(five, 29), 3);
        Check.kept(x, new int[] {2, 2, 1}, new int[] {20, 20, 10}, 0);
        int seven = Check.rowOf(x, 2, 10, 2, 10, 2, 10, 2, 10, 2, 10, 2, 10, 2, 10);
        Check.due("of 2, 2, 2, 1 and 2, 2, 1, 2", x.breakRow(seven, 29), 4);
        Check.kept(x, new int[] {2, 2, 2, 1}, new int[] {20, 20, 20, 10}, 0);
        Check.test("BEST: the COST is ahead of the PARTS in the first LINE");
        int cheap = Check.rowOf(x, 2, 40, 2, 10, 2, 50);
        // 40 and 60 costs 36 * 36 / 1000, which is 1, 50 and 50 costs 26 * 26 / 1000
        Check.due("of 2 and 1, 1 and 2", x.breakRow(cheap, 76), 2);
        Check.kept(x, new int[] {2, 1}, new int[] {50, 50}, 0);
        int shorter = Check.rowOf(x, 0, 40, 2, 0, 5, 0, 0, 50);
        x.put(shorter, x.space(0));
        // behind the COMMA 500 more
        Check.due("of 3 and 2, 2 and 3", x.breakRow(shorter, 596), 2);
        Check.kept(x, new int[] {2, 3}, new int[] {318, 217}, 278 * 278 / 1000);
    }

    /** Three LINES and four cost the same here, and the first one of the four has more PARTS. */
    private static void fewestLines() {
        Check.test("BEST: the fewest LINES are ahead of the PARTS in the first LINE");
        int space = 6;
        int[] classes = {2, 2, 2, space, 0, space, 1, space, 0, space, 2, space, 0};
        int[] widths = {990, 1, 531, 0, 327, 0, 0, 0, 673, 0, 0, 0, 100};
        Ropewalk x = new Ropewalk();
        int row = x.row();
        for (int i = 0; i < classes.length; i++) {
            x.put(row, classes[i] == space ? x.space(widths[i]) : x.sign(classes[i], widths[i], 0, 0));
        }
        // 0, 19 + 200 and 0; of 2, 1, 8 and 2 PARTS 0, 219, 0 and 0; of 2, 5 and 6 0, 20 + 200 and 0
        Check.due("breakRow()", x.breakRow(row, 1000), 3);
        Check.kept(x, new int[] {1, 6, 6}, new int[] {990, 859, 773}, 219);
        Check.due("linesWith()", x.linesWith(row, 1000), 3);
    }

    private static void greatNumbers() {
        Check.test("COST: numbers beyond an int's on the way");
        Ropewalk x = new Ropewalk();
        int row = x.row();
        x.put(row, x.sign(0, 2000, 0, 0));
        x.put(row, x.sign(0, 2000, 0, 0));
        x.put(row, x.sign(2, 186, 0, 0));
        fill(x, row, 35);
        // one LINE would be 4742 wider, and cost 5742000
        Check.due("breakRow()", x.breakRow(row, 70000), 2);
        Check.kept(x, new int[] {3, 3}, new int[] {4464, 70000}, 65536L * 65536L / 1000);
        Ropewalk y = new Ropewalk();
        int other = y.row();
        y.put(other, y.sign(2, 464, 0, 0));
        fill(y, other, 33);
        // one LINE is 742 wider; the first one of two would be 65536 narrower
        Check.due("breakRow()", y.breakRow(other, 66000), 1);
        Check.kept(y, new int[] {4}, new int[] {66742}, 1742000);
    }

    /** Puts so many SIGNS of the greatest width, in ROWS of 16, into a ROW. */
    private static void fill(Ropewalk x, int row, int signs) {
        int inner = 0;
        for (int i = 0; i < signs; i++) {
            if (i % 16 == 0) {
                inner = x.row();
                x.put(row, inner);
            }
            x.put(inner, x.sign(0, 2000, 0, 0));
        }
    }

    private static void kept() {
        Check.test("breakRow: the LINES are kept, as they are, till the next time");
        Ropewalk x = new Ropewalk();
        int row = Check.rowOf(x, 2, 10, 2, 10, 2, 10);
        int other = Check.rowOf(x, 0, 5);
        int[] parts = {2, 1};
        int[] widths = {20, 10};
        x.breakRow(row, 20);
        Check.kept(x, parts, widths, 0);
        x.resize(row + 1, 2000, 0, 0);
        Check.kept(x, parts, widths, 0);
        x.put(row, x.sign(5, 700, 0, 0));
        Check.kept(x, parts, widths, 0);
        x.linesWith(row, 1);
        x.linesWith(other, 1);
        x.roomFor(row, 1);
        x.roomFor(other, 16);
        Check.kept(x, parts, widths, 0);
        x.top(row, 3);
        x.widthWith(row + 1, 0);
        Check.kept(x, parts, widths, 0);
        x.bar(other);
        Check.badArgument("breakRow() of no ROW", x, () -> x.breakRow(row + 1, 1));
        Check.badArgument("breakRow() for no room", x, () -> x.breakRow(row, 0));
        Check.noPart("breakRow() of no PART", x, () -> x.breakRow(-1, 1));
        Check.kept(x, parts, widths, 0);
        Check.due("breakRow() of another ROW", x.breakRow(other, 4), 1);
        Check.kept(x, new int[] {1}, new int[] {5}, 1001000);
    }

    private static void roomFor() {
        Check.test("roomFor: a ROW of 0, 1 and 2 in WIDTH, without any, and one of 100");
        Ropewalk x = new Ropewalk();
        int[] widths = {0, 1, 2, 3, 100};
        int[] rooms = {1, 1, 2, 3, 100};
        for (int i = 0; i < widths.length; i++) {
            int row = Check.rowOf(x, 0, widths[i]);
            Check.due("roomFor() of 1", x.roomFor(row, 1), rooms[i]);
            Check.due("roomFor() of 16", x.roomFor(row, 16), rooms[i]);
        }
        Check.due("roomFor() of none", x.roomFor(x.row(), 1), 1);
        Check.test("roomFor: if the BEST way has more than so many LINES");
        Ropewalk y = new Ropewalk();
        int row = Check.rowOf(y, 2, 100, 2, 100, 2, 100, 2, 100);
        int[] due = {400, 200, 200, 100, 100};
        for (int lines = 1; lines <= 5; lines++) {
            Check.due("roomFor() of " + lines, y.roomFor(row, lines), due[lines - 1]);
            Check.due("linesWith() this room", y.linesWith(row, due[lines - 1]), 400 / due[lines - 1]);
        }
        Check.test("roomFor: as long as low is less than high, with m as (low + high) / 2");
        int[][] rows = {{0, 500, 2, 700, 0, 400, 1, 600, 0, 300}, {5, 1000, 5, 20, 5, 1700, 2, 30, 5, 800},
            {1, 2000, 1, 2000, 1, 2000, 1, 2000, 1, 2000, 1, 2000}, {3, 1, 2, 1, 4, 1, 5, 1, 0, 1}};
        for (int[] each : rows) {
            for (int lines = 1; lines <= 4; lines++) {
                Ropewalk z = new Ropewalk();
                int its = Check.rowOf(z, each);
                Check.due("roomFor() of " + lines, z.roomFor(its, lines), looked(z, its, lines));
            }
        }
    }

    /** As the document says that the room is looked for, with breakRow() and line(). */
    private static int looked(Ropewalk x, int row, int lines) {
        int low = 1;
        int high = 100000;
        while (low < high) {
            int m = (low + high) / 2;
            int has = x.breakRow(row, m);
            boolean isTooSmall = has > lines;
            for (int i = 0; i < has; i++) {
                isTooSmall = isTooSmall || x.line(i, 1) > m;
            }
            if (isTooSmall) {
                low = m + 1;
            } else {
                high = m;
            }
        }
        return low;
    }

    private static void roomForWide() {
        Check.test("roomFor: low ends at 100000, whether that is enough or not");
        int[][] due = {{49, 1998, 99998}, {49, 1999, 99999}, {50, 0, 100000}, {50, 1, 100000}, {51, 2000, 100000}};
        for (int[] each : due) {
            Ropewalk x = new Ropewalk();
            int row = Check.wideRow(x, each[0], each[1]);
            Check.due("roomFor() of " + each[0] + " SIGNS", x.roomFor(row, 1), each[2]);
            int excess = Math.max(0, each[0] * 2000 + each[1] - 100000);
            Check.due("breakRow() in the greatest room", x.breakRow(row, 100000), 1);
            Check.due("cost()", x.cost(), excess == 0 ? 0 : 1000000 + 1000L * excess);
        }
    }
}
