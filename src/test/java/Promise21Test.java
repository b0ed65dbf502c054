/** Promise 21: gap. */
final class Promise21Test {
    public static void main(String[] args) {
        pairs();
        joining();
        spaces();
        wrongOnes();
        Check.end();
    }

    /** The GAP of two that are alone in a ROW; there a JOINING one is always PLAIN. */
    private static void pairs() {
        int[][] due = {
            {0, 0, 278, 0, 0, 0},
            {0, 0, 278, 0, 0, 0},
            {278, 278, 0, 278, 278, 278},
            {0, 0, 278, 0, 0, 0},
            {0, 0, 278, 0, 0, 0},
            {167, 167, 278, 167, 167, 167}};
        for (int a = 0; a <= 5; a++) {
            for (int b = 0; b <= 5; b++) {
                Ropewalk x = new Ropewalk();
                int row = Check.rowOf(x, a, 10, b, 20);
                Check.due("gap of " + a + " and " + b, x.gap(row, 0), due[a][b]);
                Check.due("gap behind the last one", x.gap(row, 1), 0);
                Check.due("WIDTH in 0", x.size(row, 0, 0), 30 + due[a][b]);
                Check.due("WIDTH in 1", x.size(row, 1, 0), 30 + due[a][b]);
                Check.due("WIDTH in 2", x.size(row, 2, 0), 21);
                Check.due("WIDTH in 3", x.size(row, 3, 0), 15);
            }
        }
    }

    private static void joining() {
        Ropewalk x = new Ropewalk();
        int row = Check.rowOf(x, 0, 1, 1, 1, 0, 1, 4, 1, 1, 1, 3, 1, 2, 1);
        int[] due = {222, 222, 0, 222, 222, 278, 0};
        for (int i = 0; i < due.length; i++) {
            Check.due("gap behind " + i, x.gap(row, i), due[i]);
        }
        Check.due("WIDTH", x.size(row, 0, 0), 7 + 4 * 222 + 278);
    }

    private static void spaces() {
        Ropewalk x = new Ropewalk();
        int row = x.row();
        x.put(row, x.sign(2, 1, 1, 1));
        x.put(row, x.space(1));
        x.put(row, x.sign(5, 1, 1, 1));
        x.put(row, x.space(1));
        x.put(row, x.space(1));
        Check.due("behind a RELATING one", x.gap(row, 0), 0);
        Check.due("behind a SPACE", x.gap(row, 1), 0);
        Check.due("behind a COMMA", x.gap(row, 2), 0);
        Check.due("between SPACES", x.gap(row, 3), 0);
        x.put(row, x.sign(2, 1, 1, 1));
        Check.due("ahead of a RELATING one", x.gap(row, 4), 0);
    }

    private static void wrongOnes() {
        Ropewalk x = new Ropewalk();
        int row = Check.rowOf(x, 0, 5, 2, 5);
        int empty = x.row();
        Check.noPart("row -1", x, () -> x.gap(-1, 0));
        Check.noPart("row 4", x, () -> x.gap(4, -1));
        Check.badArgument("no ROW", x, () -> x.gap(1, 0));
        Check.badArgument("place -1", x, () -> x.gap(row, -1));
        Check.badArgument("place 2", x, () -> x.gap(row, 2));
        Check.badArgument("an empty ROW", x, () -> x.gap(empty, 0));
        Check.due("gap behind the last one", x.gap(row, 1), 0);
        x.put(row, x.sign(0, 1, 1, 1));
        Check.due("with one behind it", x.gap(row, 1), 278);
    }
}
