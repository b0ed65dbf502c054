/** Promise 2: sign. */
final class Promise02Test {
    public static void main(String[] args) {
        Ropewalk x = new Ropewalk();
        for (int itsClass = 0; itsClass <= 5; itsClass++) {
            Check.due("sign() of CLASS " + itsClass, x.sign(itsClass, 500, 600, 100), itsClass);
        }
        Check.due("the least sizes", x.sign(0, 0, 0, 0), 6);
        Check.due("the greatest sizes", x.sign(0, 2000, 2000, 2000), 7);
        Check.sizes(x, 0, 0, 500, 600, 100);
        Check.sizes(x, 0, 1, 500, 600, 100);
        Check.sizes(x, 0, 2, 350, 420, 70);
        Check.sizes(x, 0, 3, 250, 300, 50);
        Check.sizes(x, 7, 3, 1000, 1000, 1000);
        Check.due("sizes that are cut", x.sign(0, 999, 3, 1), 8);
        Check.sizes(x, 8, 2, 699, 2, 0);
        Check.sizes(x, 8, 3, 499, 1, 0);
        wrongArguments(x);
        fullOne();
        Check.end();
    }

    private static void wrongArguments(Ropewalk x) {
        Check.badArgument("CLASS -1", x, () -> x.sign(-1, 1, 1, 1));
        Check.badArgument("CLASS 6", x, () -> x.sign(6, 1, 1, 1));
        Check.badArgument("width -1", x, () -> x.sign(0, -1, 1, 1));
        Check.badArgument("width 2001", x, () -> x.sign(0, 2001, 1, 1));
        Check.badArgument("height -1", x, () -> x.sign(0, 1, -1, 1));
        Check.badArgument("height 2001", x, () -> x.sign(0, 1, 2001, 1));
        Check.badArgument("depth -1", x, () -> x.sign(0, 1, 1, -1));
        Check.badArgument("depth 2001", x, () -> x.sign(0, 1, 1, 2001));
    }

    private static void fullOne() {
        Ropewalk x = Check.full();
        Check.badState("a 61st one", x, () -> x.sign(0, 1, 1, 1));
        Check.badArgument("a wrong 61st one", x, () -> x.sign(6, 1, 1, 1));
    }
}
