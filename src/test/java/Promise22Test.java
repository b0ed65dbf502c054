/** Promise 22: breakRow. */
final class Promise22Test {
    public static void main(String[] args) {
        equation();
        commas();
        equalWays();
        noPlaceToBreak();
        keptAsTheyAre();
        wrongOnes();
        Check.end();
    }

    /** x = y + z, 3500 wide. */
    private static void equation() {
        Ropewalk x = new Ropewalk();
        int row = Check.rowOf(x, 0, 500, 2, 700, 0, 400, 1, 600, 0, 300);
        x.top(row, 3);
        Check.due("room 100000", x.breakRow(row, 100000), 1);
        Check.kept(x, new int[] {5}, new int[] {3500}, 0);
        Check.due("room 3500", x.breakRow(row, 3500), 1);
        Check.kept(x, new int[] {5}, new int[] {3500}, 0);
        // behind the JOINING one 271 + 200, behind the RELATING one 4084
        Check.due("room 3499", x.breakRow(row, 3499), 2);
        Check.kept(x, new int[] {4, 1}, new int[] {2978, 300}, 471);
        Check.due("room 1744", x.breakRow(row, 1744), 2);
        Check.kept(x, new int[] {2, 3}, new int[] {1478, 1744}, 70);
        Check.due("room 1600", x.breakRow(row, 1600), 3);
        Check.kept(x, new int[] {2, 2, 1}, new int[] {1478, 1222, 300}, 14 + 342);
        Check.due("room 1", x.breakRow(row, 1), 1);
        Check.kept(x, new int[] {5}, new int[] {3500}, 1000000 + 3499000);
        // 1 wider in the first LINE, 1001000, or in the second one, as well, or all together
        Check.due("room 1477", x.breakRow(row, 1477), 3);
        Check.kept(x, new int[] {2, 2, 1}, new int[] {1478, 1222, 300}, 1001000 + 65 + 200);
    }

    private static void commas() {
        Ropewalk x = new Ropewalk();
        int row = Check.rowOf(x, 0, 100, 5, 50, 0, 100);
        Check.due("behind a COMMA", x.breakRow(row, 200), 2);
        Check.kept(x, new int[] {2, 1}, new int[] {150, 100}, 2 + 500);
        Check.due("in one", x.breakRow(row, 417), 1);
        Check.kept(x, new int[] {3}, new int[] {417}, 0);
        Check.due("a wider LINE that is not the last one", x.breakRow(row, 149), 2);
        Check.kept(x, new int[] {2, 1}, new int[] {150, 100}, 1001000 + 500);
    }

    private static void equalWays() {
        Ropewalk x = new Ropewalk();
        int all = Check.rowOf(x, 2, 0, 2, 0, 2, 0);
        Check.due("the fewest LINES", x.breakRow(all, 1), 1);
        Check.kept(x, new int[] {3}, new int[] {0}, 0);
        int three = Check.rowOf(x, 2, 10, 2, 10, 2, 10);
        Check.due("two LINES", x.breakRow(three, 20), 2);
        Check.kept(x, new int[] {2, 1}, new int[] {20, 10}, 0);
        int five = Check.rowOf(x, 2, 10, 2, 10, 2, 10, 2, 10, 2, 10);
        Check.due("three LINES", x.breakRow(five, 20), 3);
        Check.kept(x, new int[] {2, 2, 1}, new int[] {20, 20, 10}, 0);
        int seven = Check.rowOf(x, 2, 10, 2, 10, 2, 10, 2, 10, 2, 10, 2, 10, 2, 10);
        Check.due("three LINES of seven", x.breakRow(seven, 30), 3);
        Check.kept(x, new int[] {3, 3, 1}, new int[] {30, 30, 10}, 0);
    }

    private static void noPlaceToBreak() {
        Ropewalk x = new Ropewalk();
        int row = Check.rowOf(x, 0, 100, 3, 100, 4, 100, 1, 100, 2, 100);
        // the JOINING one is PLAIN ahead of the RELATING one, and behind the last one no LINE begins
        Check.due("one LINE", x.breakRow(row, 100), 1);
        Check.kept(x, new int[] {5}, new int[] {778}, 1678000);
        int spaced = x.row();
        x.put(spaced, x.sign(2, 100, 0, 0));
        x.put(spaced, x.space(50));
        x.put(spaced, x.sign(0, 100, 0, 0));
        Check.due("ahead of a SPACE", x.breakRow(spaced, 160), 2);
        Check.kept(x, new int[] {1, 2}, new int[] {100, 150}, 3);
        int empty = x.row();
        Check.due("an empty ROW", x.breakRow(empty, 1), 0);
        Check.kept(x, new int[0], new int[0], 0);
    }

    private static void keptAsTheyAre() {
        Ropewalk x = new Ropewalk();
        int row = Check.rowOf(x, 2, 10, 2, 10, 2, 10);
        x.breakRow(row, 20);
        x.resize(1, 2000, 0, 0);
        x.put(row, x.sign(2, 10, 0, 0));
        x.linesWith(row, 5);
        x.roomFor(row, 1);
        x.digest();
        Check.kept(x, new int[] {2, 1}, new int[] {20, 10}, 0);
        Check.badArgument("room 0", x, () -> x.breakRow(row, 0));
        Check.kept(x, new int[] {2, 1}, new int[] {20, 10}, 0);
    }

    private static void wrongOnes() {
        Ropewalk x = new Ropewalk();
        int row = Check.rowOf(x, 0, 5, 2, 5);
        Check.noPart("row -1", x, () -> x.breakRow(-1, 1));
        Check.noPart("row 3, room 0", x, () -> x.breakRow(3, 0));
        Check.badArgument("no ROW", x, () -> x.breakRow(1, 1));
        Check.badArgument("room 0", x, () -> x.breakRow(row, 0));
        Check.badArgument("room 100001", x, () -> x.breakRow(row, 100001));
        Check.due("room 1", x.breakRow(row, 1), 1);
    }
}
