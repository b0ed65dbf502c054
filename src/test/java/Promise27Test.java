/** Promise 27: widthWith. */
final class Promise27Test {
    public static void main(String[] args) {
        Ropewalk x = new Ropewalk();
        int a = x.sign(0, 500, 600, 100);
        int b = x.sign(0, 400, 500, 50);
        int outside = x.sign(0, 10, 10, 10);
        int f = x.fraction(a, b);
        Check.badState("no TOP", x, () -> x.widthWith(a, 1));
        Check.badArgument("no TOP, width 2001", x, () -> x.widthWith(a, 2001));
        x.top(f, 0);
        Check.due("a wider", x.widthWith(a, 2000), 2240);
        Check.due("a narrower than b", x.widthWith(a, 0), 640);
        Check.due("b wider", x.widthWith(b, 501), 741);
        Check.due("one that is not in it", x.widthWith(outside, 2000), 740);
        Check.sizes(x, f, 0, 740, 1090, 440);
        Check.sizes(x, a, 0, 500, 600, 100);
        Check.lies(x, a, 1, 120, 490);
        x.top(f, 1);
        Check.due("a wider, in STYLE 1", x.widthWith(a, 1001), 940);
        Check.due("resize() still tells", x.resize(a, 1, 1, 1), 500);
        Check.noPart("part -1", x, () -> x.widthWith(-1, 1));
        Check.noPart("part 4, width 2001", x, () -> x.widthWith(4, 2001));
        Check.badArgument("no SIGN", x, () -> x.widthWith(f, 1));
        Check.badArgument("width -1", x, () -> x.widthWith(a, -1));
        Check.badArgument("width 2001", x, () -> x.widthWith(a, 2001));
        // the digest, and so all answers, as before
        long before = x.digest();
        x.widthWith(b, 2000);
        Check.due("digest()", x.digest(), before);
        Check.end();
    }
}
