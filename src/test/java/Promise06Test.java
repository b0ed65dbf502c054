/** Promise 6: fraction. */
final class Promise06Test {
    public static void main(String[] args) {
        ordinary();
        aboveTheLine();
        wrongOnes();
        Check.end();
    }

    private static void ordinary() {
        Ropewalk x = new Ropewalk();
        int a = x.sign(0, 500, 600, 100);
        int b = x.sign(0, 401, 500, 50);
        int f = x.fraction(a, b);
        Check.due("fraction()", f, 2);
        Check.due("what it is", x.ofPart(f, 0), 3);
        Check.due("how many are in it", x.ofPart(f, 2), 2);
        Check.due("OWNER of a", x.ofPart(a, 1), f);
        Check.due("OWNER of b", x.ofPart(b, 1), f);
        Check.sizes(x, f, 0, 740, 1090, 440);
        Check.sizes(x, f, 1, 590, 820, 215);
        Check.sizes(x, f, 2, 418, 581, 156);
        Check.sizes(x, f, 3, 370, 515, 190);
        x.top(f, 0);
        Check.lies(x, a, 1, 120, 490);
        Check.lies(x, b, 1, 169, -390);
        x.top(f, 1);
        Check.lies(x, a, 2, 120, 400);
        Check.lies(x, b, 2, 155, -180);
        x.top(f, 2);
        Check.lies(x, a, 3, 84, 281);
        Check.lies(x, b, 3, 109, -131);
        x.top(f, 3);
        Check.lies(x, a, 3, 60, 215);
        Check.lies(x, b, 3, 85, -165);
    }

    private static void aboveTheLine() {
        Ropewalk x = new Ropewalk();
        int f = x.fraction(x.sign(0, 0, 0, 0), x.sign(0, 100, 10, 70));
        Check.sizes(x, f, 0, 340, 390, 0);
        x.top(f, 0);
        Check.lies(x, 0, 1, 170, 390);
        Check.lies(x, 1, 1, 120, 100);
    }

    private static void wrongOnes() {
        Ropewalk x = new Ropewalk();
        int a = x.sign(0, 1, 1, 1);
        int b = x.sign(0, 1, 1, 1);
        int c = x.sign(0, 1, 1, 1);
        Check.noPart("a -1", x, () -> x.fraction(-1, b));
        Check.noPart("b -1", x, () -> x.fraction(a, -1));
        Check.noPart("a 3", x, () -> x.fraction(3, b));
        Check.noPart("b 3", x, () -> x.fraction(a, 3));
        Check.badState("the same", x, () -> x.fraction(a, a));
        x.bar(a);
        Check.badState("a has an OWNER", x, () -> x.fraction(a, b));
        Check.badState("b has an OWNER", x, () -> x.fraction(b, a));
        Check.noPart("an OWNER, and no PART", x, () -> x.fraction(a, 9));
        x.top(c, 0);
        Check.badState("a is the TOP", x, () -> x.fraction(c, b));
        Check.badState("b is the TOP", x, () -> x.fraction(b, c));
        Ropewalk full = Check.full();
        Check.badState("a 61st one", full, () -> full.fraction(0, 1));
        Check.noPart("a 61st one of none", full, () -> full.fraction(0, 60));
    }
}
