/** Promise 26: roomFor. */
final class Promise26Test {
    public static void main(String[] args) {
        Ropewalk x = new Ropewalk();
        int row = Check.rowOf(x, 0, 500, 2, 700, 0, 400, 1, 600, 0, 300);
        x.breakRow(row, 3499);
        Check.due("1 LINE", x.roomFor(row, 1), 3500);
        Check.due("2 LINES", x.roomFor(row, 2), 1744);
        Check.due("3 LINES", x.roomFor(row, 3), 1478);
        Check.due("16 LINES", x.roomFor(row, 16), 1478);
        Check.kept(x, new int[] {4, 1}, new int[] {2978, 300}, 471);
        int empty = x.row();
        Check.due("an empty ROW", x.roomFor(empty, 1), 1);
        int narrow = Check.rowOf(x, 0, 0);
        Check.due("a ROW of no WIDTH", x.roomFor(narrow, 1), 1);
        Check.noPart("row -1", x, () -> x.roomFor(-1, 1));
        Check.noPart("row 9, no LINES", x, () -> x.roomFor(9, 0));
        Check.badArgument("no ROW", x, () -> x.roomFor(1, 1));
        Check.badArgument("0 LINES", x, () -> x.roomFor(row, 0));
        Check.badArgument("17 LINES", x, () -> x.roomFor(row, 17));
        wide();
        Check.end();
    }

    /** A ROW of 56 SIGNS of 2000, in four ROWS: no room is enough, so low ends at 100000. */
    private static void wide() {
        Ropewalk x = new Ropewalk();
        int outer = x.row();
        for (int i = 0; i < 4; i++) {
            int inner = x.row();
            x.put(outer, inner);
            for (int j = 0; j < 13; j++) {
                x.put(inner, x.sign(0, 2000, 0, 0));
            }
        }
        Check.due("104000 wide", x.roomFor(outer, 1), 100000);
        Check.due("its COST in the greatest room", x.breakRow(outer, 100000), 1);
        Check.due("cost()", x.cost(), 1000000 + 4000 * 1000);
    }
}
