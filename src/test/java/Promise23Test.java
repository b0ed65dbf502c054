/** Promise 23: line. */
final class Promise23Test {
    public static void main(String[] args) {
        Ropewalk x = new Ropewalk();
        Check.noPart("none kept", x, () -> x.line(0, 0));
        Check.noPart("none kept, what 2", x, () -> x.line(0, 2));
        int row = Check.rowOf(x, 0, 500, 2, 700, 0, 400, 1, 600, 0, 300);
        x.breakRow(row, 1600);
        Check.due("parts of 0", x.line(0, 0), 2);
        Check.due("WIDTH of 0", x.line(0, 1), 1478);
        Check.due("parts of 1", x.line(1, 0), 2);
        Check.due("WIDTH of 1", x.line(1, 1), 1222);
        Check.due("parts of 2", x.line(2, 0), 1);
        Check.due("WIDTH of 2", x.line(2, 1), 300);
        Check.noPart("LINE -1", x, () -> x.line(-1, 0));
        Check.noPart("LINE 3", x, () -> x.line(3, 0));
        Check.noPart("LINE 3, what 2", x, () -> x.line(3, 2));
        Check.badArgument("what -1", x, () -> x.line(0, -1));
        Check.badArgument("what 2", x, () -> x.line(0, 2));
        sixteen();
        Check.end();
    }

    private static void sixteen() {
        Ropewalk x = new Ropewalk();
        int row = x.row();
        for (int i = 0; i < 16; i++) {
            x.put(row, x.sign(2, 10 + i, 0, 0));
        }
        Check.due("of 10 to 25, two pairs fit", x.breakRow(row, 25), 14);
        Check.due("parts of 0", x.line(0, 0), 2);
        Check.due("WIDTH of 1", x.line(1, 1), 25);
        Check.due("parts of 13", x.line(13, 0), 1);
        Check.due("WIDTH of 13", x.line(13, 1), 25);
        for (int i = 1; i <= 16; i++) {
            x.resize(i, 10, 0, 0);
        }
        Check.due("one for each PART", x.breakRow(row, 10), 16);
        Check.due("parts of 15", x.line(15, 0), 1);
        Check.due("WIDTH of 15", x.line(15, 1), 10);
        Check.noPart("LINE 16", x, () -> x.line(16, 0));
    }
}
