/** Promise 25: linesWith. */
final class Promise25Test {
    public static void main(String[] args) {
        Ropewalk x = new Ropewalk();
        int row = Check.rowOf(x, 0, 500, 2, 700, 0, 400, 1, 600, 0, 300);
        x.breakRow(row, 3499);
        Check.due("room 1", x.linesWith(row, 1), 1);
        Check.due("room 1477", x.linesWith(row, 1477), 3);
        Check.due("room 1600", x.linesWith(row, 1600), 3);
        Check.due("room 1744", x.linesWith(row, 1744), 2);
        Check.due("room 3500", x.linesWith(row, 3500), 1);
        Check.due("room 100000", x.linesWith(row, 100000), 1);
        Check.kept(x, new int[] {4, 1}, new int[] {2978, 300}, 471);
        x.resize(1, 499, 0, 0);
        Check.due("with a smaller SIGN", x.linesWith(row, 3499), 1);
        int empty = x.row();
        Check.due("an empty ROW", x.linesWith(empty, 1), 0);
        Check.noPart("row -1", x, () -> x.linesWith(-1, 1));
        Check.noPart("row 7, room 0", x, () -> x.linesWith(7, 0));
        Check.badArgument("no ROW", x, () -> x.linesWith(1, 1));
        Check.badArgument("room 0", x, () -> x.linesWith(row, 0));
        Check.badArgument("room 100001", x, () -> x.linesWith(row, 100001));
        Check.end();
    }
}
