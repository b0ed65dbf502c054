/** Promise 4: row. */
final class Promise04Test {
    public static void main(String[] args) {
        Ropewalk x = new Ropewalk();
        Check.due("row()", x.row(), 0);
        Check.due("row() again", x.row(), 1);
        Check.due("what it is", x.ofPart(1, 0), 2);
        Check.due("how many are in it", x.ofPart(1, 2), 0);
        for (int style = 0; style <= 3; style++) {
            Check.sizes(x, 1, style, 0, 0, 0);
        }
        Ropewalk full = Check.full();
        Check.badState("a 61st one", full, () -> full.row());
        Check.end();
    }
}
