/** Promise 19: at. */
final class Promise19Test {
    public static void main(String[] args) {
        edges();
        innermost();
        equallyDeep();
        Check.end();
    }

    private static void edges() {
        Ropewalk x = new Ropewalk();
        x.sign(0, 500, 600, 100);
        Check.due("no TOP", x.at(0, 0), -1);
        x.top(0, 0);
        Check.due("its first x", x.at(0, 0), 0);
        Check.due("ahead of it", x.at(-1, 0), -1);
        Check.due("its last x", x.at(499, 0), 0);
        Check.due("behind it", x.at(500, 0), -1);
        Check.due("its lowest y", x.at(0, -100), 0);
        Check.due("below it", x.at(0, -101), -1);
        Check.due("its highest y", x.at(0, 599), 0);
        Check.due("above it", x.at(0, 600), -1);
        Check.due("far away", x.at(Integer.MAX_VALUE, Integer.MIN_VALUE), -1);
        x.resize(0, 400, 600, 100);
        Check.due("where it has ended", x.at(400, 0), -1);
        x.resize(0, 500, 600, 100);
        Check.due("where it goes on", x.at(400, 0), 0);
        x.top(0, 3);
        Check.due("its last x in 3", x.at(249, 299), 0);
        Check.due("behind it in 3", x.at(250, 299), -1);
        x.space(100);
        x.top(1, 0);
        Check.due("a SPACE", x.at(0, 0), -1);
    }

    private static void innermost() {
        Ropewalk x = new Ropewalk();
        int a = x.sign(0, 500, 600, 100);
        int b = x.sign(0, 400, 500, 50);
        int f = x.fraction(a, b);
        int fence = x.fence(f, true, true);
        x.top(fence, 0);
        Check.due("the FENCE itself", x.at(0, 0), fence);
        Check.due("the FRACTION", x.at(400, 0), f);
        Check.due("a", x.at(520, 490), a);
        Check.due("its lower edge", x.at(520, 390), a);
        Check.due("below it", x.at(520, 389), f);
        Check.due("b", x.at(570, -390), b);
        Check.due("ahead of b", x.at(569, -390), f);
        Check.due("one that has no OWNER", x.sign(0, 2000, 2000, 2000), 4);
        Check.due("is not found", x.at(1900, 1900), -1);
    }

    /** An index that hangs out of its ROOT, over the BAR that is below in a FRACTION. */
    private static void equallyDeep() {
        for (int order = 0; order <= 1; order++) {
            Ropewalk x = new Ropewalk();
            int first = order == 0 ? index(x) : other(x);
            int second = order == 0 ? other(x) : index(x);
            int index = order == 0 ? first : second;
            int other = order == 0 ? second : first;
            int root = x.root(x.sign(0, 500, 600, 100), index);
            int bar = x.bar(other);
            int fraction = x.fraction(root, bar);
            x.top(fraction, 3);
            // the index covers x 60 to 209, y -589 to 410; the other one x 60 to 559, y -275 to 24
            Check.lies(x, index, 3, 60, 411);
            Check.lies(x, other, 3, 60, -275);
            Check.due("both as deep in", x.at(100, -200), first);
            Check.due("the last y of both", x.at(209, 24), first);
            Check.due("the index ahead of the BAR", x.at(100, 25), index);
            Check.due("the other one alone", x.at(210, -200), other);
            Check.due("the BAR alone", x.at(210, 25), bar);
            Check.due("the index below all others", x.at(100, -589), index);
            Check.due("below the index", x.at(100, -590), -1);
        }
    }

    private static int index(Ropewalk x) {
        return x.sign(0, 300, 0, 2000);
    }

    private static int other(Ropewalk x) {
        return x.sign(0, 1000, 600, 0);
    }
}
