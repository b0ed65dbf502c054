/** Promise 7: root. */
final class Promise07Test {
    public static void main(String[] args) {
        ordinary();
        narrowAndHighIndex();
        withoutIndex();
        wrongOnes();
        Check.end();
    }

    private static void ordinary() {
        Ropewalk x = new Ropewalk();
        int a = x.sign(0, 500, 600, 100);
        int b = x.sign(0, 900, 400, 60);
        int r = x.root(a, b);
        Check.due("root()", r, 2);
        Check.due("what it is", x.ofPart(r, 0), 4);
        Check.due("how many are in it", x.ofPart(r, 2), 2);
        Check.due("OWNER of b", x.ofPart(b, 1), r);
        Check.sizes(x, r, 0, 1150, 720, 100);
        Check.sizes(x, r, 2, 940, 504, 70);
        x.top(r, 1);
        Check.lies(x, a, 1, 650, 0);
        Check.lies(x, b, 3, 0, 392);
        x.top(r, 2);
        Check.lies(x, a, 2, 590, 0);
        Check.lies(x, b, 3, 0, 274);
    }

    private static void narrowAndHighIndex() {
        Ropewalk x = new Ropewalk();
        int r = x.root(x.sign(0, 500, 600, 100), x.sign(0, 200, 2000, 0));
        Check.sizes(x, r, 0, 1000, 1392, 100);
        x.top(r, 0);
        Check.lies(x, 0, 0, 500, 0);
        Check.lies(x, 1, 3, 200, 392);
        Ropewalk low = new Ropewalk();
        low.root(low.sign(0, 500, 0, 2000), low.sign(0, 600, 100, 0));
        Check.sizes(low, 2, 0, 1000, 120, 2000);
        low.top(2, 0);
        // (120 + 2000) * 60 / 100 - 2000
        Check.lies(low, 1, 3, 0, -728);
    }

    private static void withoutIndex() {
        Ropewalk x = new Ropewalk();
        int r = x.root(x.sign(0, 500, 600, 100), -1);
        Check.due("how many are in it", x.ofPart(r, 2), 1);
        Check.sizes(x, r, 0, 1000, 720, 100);
        Check.sizes(x, r, 2, 700, 504, 70);
        Check.sizes(x, r, 3, 500, 360, 50);
        Check.due("top()", x.top(r, 0), 2);
        Check.lies(x, 0, 0, 500, 0);
    }

    private static void wrongOnes() {
        Ropewalk x = new Ropewalk();
        int a = x.sign(0, 1, 1, 1);
        int b = x.sign(0, 1, 1, 1);
        int c = x.sign(0, 1, 1, 1);
        Check.noPart("a -1", x, () -> x.root(-1, b));
        Check.noPart("a -1, b none", x, () -> x.root(-1, -1));
        Check.noPart("a 3", x, () -> x.root(3, -1));
        Check.noPart("b -2", x, () -> x.root(a, -2));
        Check.noPart("b 3", x, () -> x.root(a, 3));
        Check.badState("the same", x, () -> x.root(a, a));
        x.bar(a);
        Check.badState("a has an OWNER", x, () -> x.root(a, -1));
        Check.badState("b has an OWNER", x, () -> x.root(b, a));
        Check.noPart("an OWNER, and no PART", x, () -> x.root(a, 9));
        x.top(c, 0);
        Check.badState("a is the TOP", x, () -> x.root(c, -1));
        Check.badState("b is the TOP", x, () -> x.root(b, c));
        Ropewalk full = Check.full();
        Check.badState("a 61st one", full, () -> full.root(0, -1));
        Check.noPart("a 61st one of none", full, () -> full.root(60, -1));
    }
}
