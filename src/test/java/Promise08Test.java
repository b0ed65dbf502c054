/** Promise 8: scripts. */
final class Promise08Test {
    private static final int NONE = -1;

    public static void main(String[] args) {
        ordinary();
        onlyOne();
        tooNear();
        beyondTheBase();
        lowBase();
        wrongOnes();
        Check.end();
    }

    /** Its PARTS are 0 the base, 1 and 2 the scripts, and 3. */
    private static Ropewalk made(boolean hasUpper, boolean hasLower) {
        Ropewalk x = new Ropewalk();
        x.sign(0, 600, 700, 80);
        x.sign(0, 300, 400, 50);
        x.sign(0, 500, 450, 100);
        Check.due("scripts()", x.scripts(0, hasUpper ? 1 : NONE, hasLower ? 2 : NONE), 3);
        return x;
    }

    private static void ordinary() {
        Ropewalk x = made(true, true);
        Check.due("what it is", x.ofPart(3, 0), 5);
        Check.due("how many are in it", x.ofPart(3, 2), 3);
        Check.due("OWNER of a", x.ofPart(0, 1), 3);
        Check.due("OWNER of b", x.ofPart(1, 1), 3);
        Check.due("OWNER of c", x.ofPart(2, 1), 3);
        Check.sizes(x, 3, 0, 1000, 780, 250);
        Check.sizes(x, 3, 1, 1000, 780, 250);
        Check.sizes(x, 3, 2, 705, 550, 176);
        x.top(3, 0);
        Check.lies(x, 0, 0, 0, 0);
        Check.lies(x, 1, 2, 600, 500);
        Check.lies(x, 2, 2, 600, -180);
        x.top(3, 2);
        Check.lies(x, 0, 2, 0, 0);
        Check.lies(x, 1, 3, 420, 350);
        Check.lies(x, 2, 3, 420, -126);
        x.top(3, 3);
        Check.lies(x, 2, 3, 300, -90);
    }

    private static void onlyOne() {
        Ropewalk upper = made(true, false);
        Check.due("how many are in it", upper.ofPart(3, 2), 2);
        Check.sizes(upper, 3, 1, 860, 780, 80);
        Ropewalk lower = made(false, true);
        Check.due("OWNER of c", lower.ofPart(2, 1), 3);
        Check.sizes(lower, 3, 1, 1000, 700, 250);
        lower.top(3, 1);
        Check.lies(lower, 2, 2, 600, -180);
    }

    private static void tooNear() {
        Ropewalk x = made(true, true);
        x.resize(2, 500, 2000, 100);
        // (500 - 35) - (1400 - 180) is 915 less than 160
        Check.sizes(x, 3, 1, 1000, 1695, 250);
        x.top(3, 1);
        Check.lies(x, 1, 2, 600, 1415);
        Check.lies(x, 2, 2, 600, -180);
    }

    private static void beyondTheBase() {
        Ropewalk upper = made(true, false);
        upper.resize(1, 300, 400, 2000);
        Check.sizes(upper, 3, 1, 860, 780, 900);
        Ropewalk lower = made(false, true);
        lower.resize(2, 500, 2000, 100);
        Check.sizes(lower, 3, 1, 1000, 1220, 250);
    }

    private static void lowBase() {
        Ropewalk x = made(true, true);
        x.resize(0, 600, 590, 40);
        x.top(3, 1);
        Check.lies(x, 1, 2, 600, 400);
        Check.lies(x, 2, 2, 600, -150);
        Check.sizes(x, 3, 1, 1000, 680, 220);
    }

    private static void wrongOnes() {
        Ropewalk x = new Ropewalk();
        for (int i = 0; i < 5; i++) {
            x.sign(0, 1, 1, 1);
        }
        Check.noPart("a -1", x, () -> x.scripts(-1, 1, 2));
        Check.noPart("a 5", x, () -> x.scripts(5, 1, 2));
        Check.noPart("b -2", x, () -> x.scripts(0, -2, 2));
        Check.noPart("b 5", x, () -> x.scripts(0, 5, 2));
        Check.noPart("c -2", x, () -> x.scripts(0, 1, -2));
        Check.noPart("c 5", x, () -> x.scripts(0, 1, 5));
        Check.noPart("a 5, both none", x, () -> x.scripts(5, NONE, NONE));
        Check.badArgument("both none", x, () -> x.scripts(0, NONE, NONE));
        Check.badState("a and b the same", x, () -> x.scripts(0, 0, 1));
        Check.badState("a and c the same", x, () -> x.scripts(0, 1, 0));
        Check.badState("b and c the same", x, () -> x.scripts(0, 1, 1));
        x.bar(3);
        Check.badState("a has an OWNER", x, () -> x.scripts(3, 1, NONE));
        Check.badState("b has an OWNER", x, () -> x.scripts(0, 3, NONE));
        Check.badState("c has an OWNER", x, () -> x.scripts(0, NONE, 3));
        Check.badArgument("a has an OWNER, both none", x, () -> x.scripts(3, NONE, NONE));
        x.top(4, 0);
        Check.badState("a is the TOP", x, () -> x.scripts(4, 1, 2));
        Check.badState("b is the TOP", x, () -> x.scripts(0, 4, 2));
        Check.badState("c is the TOP", x, () -> x.scripts(0, 1, 4));
        Ropewalk full = Check.full();
        Check.badState("a 61st one", full, () -> full.scripts(0, 1, 2));
        Check.badArgument("a 61st one, both none", full, () -> full.scripts(0, NONE, NONE));
    }
}
