/** Promise 10: matrix. */
final class Promise10Test {
    public static void main(String[] args) {
        Ropewalk x = new Ropewalk();
        Check.due("matrix(1, 1)", x.matrix(1, 1), 0);
        Check.due("matrix(4, 4)", x.matrix(4, 4), 1);
        Check.due("matrix(2, 3)", x.matrix(2, 3), 2);
        Check.due("what it is", x.ofPart(1, 0), 7);
        Check.due("how many are in it", x.ofPart(1, 2), 0);
        Check.sizes(x, 0, 0, 0, 250, 0);
        Check.sizes(x, 1, 0, 1800, 700, 200);
        Check.sizes(x, 1, 2, 1260, 490, 140);
        Check.sizes(x, 1, 3, 900, 350, 100);
        Check.sizes(x, 2, 1, 1200, 400, 0);
        Check.badArgument("no row", x, () -> x.matrix(0, 1));
        Check.badArgument("5 rows", x, () -> x.matrix(5, 1));
        Check.badArgument("no column", x, () -> x.matrix(1, 0));
        Check.badArgument("5 columns", x, () -> x.matrix(1, 5));
        Check.badArgument("less than none", x, () -> x.matrix(-2, -2));
        Ropewalk full = Check.full();
        Check.badState("a 61st one", full, () -> full.matrix(1, 1));
        Check.badArgument("a wrong 61st one", full, () -> full.matrix(0, 1));
        Check.end();
    }
}
