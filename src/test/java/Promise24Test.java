/** Promise 24: cost. */
final class Promise24Test {
    public static void main(String[] args) {
        Ropewalk x = new Ropewalk();
        Check.due("without any", x.cost(), 0);
        int row = Check.rowOf(x, 0, 500, 2, 700, 0, 400, 1, 600, 0, 300);
        x.breakRow(row, 3499);
        Check.due("of a JOINING one", x.cost(), 471);
        x.breakRow(row, 1744);
        Check.due("of a RELATING one", x.cost(), 70);
        x.linesWith(row, 1);
        x.roomFor(row, 3);
        Check.due("behind what keeps none", x.cost(), 70);
        x.breakRow(row, 1);
        Check.due("of a wide one", x.cost(), 4499000);
        int commas = Check.rowOf(x, 0, 100, 5, 50, 0, 100);
        x.breakRow(commas, 200);
        Check.due("of a COMMA", x.cost(), 502);
        x.breakRow(x.row(), 1);
        Check.due("of none again", x.cost(), 0);
        // the only place to break leaves a loose LINE: (100000 - 10) * (100000 - 10) / 1000 would be more than all
        int two = Check.rowOf(x, 2, 10, 0, 10);
        x.breakRow(two, 100000);
        Check.due("of one LINE", x.cost(), 0);
        loose();
        Check.end();
    }

    /** A LINE that is 99999 short costs more than an int's product. */
    private static void loose() {
        Ropewalk x = new Ropewalk();
        int row = x.row();
        x.put(row, x.sign(2, 0, 0, 0));
        for (int i = 0; i < 15; i++) {
            x.put(row, x.sign(0, 2000, 0, 0));
        }
        // one LINE: 278 + 30000, 278 wider; two: 30000 short of nothing, and the first one 30000 short
        x.breakRow(row, 30000);
        Check.due("of the two LINES", x.cost(), 900000);
        x.breakRow(row, 30277);
        Check.due("of the two LINES, a bit looser", x.cost(), 30277L * 30277L / 1000);
        Check.due("their number", x.line(0, 0), 1);
    }
}
