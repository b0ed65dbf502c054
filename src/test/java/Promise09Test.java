/** Promise 9: fence. */
final class Promise09Test {
    public static void main(String[] args) {
        ordinary();
        sides();
        steps();
        wrongOnes();
        Check.end();
    }

    private static void ordinary() {
        Ropewalk x = new Ropewalk();
        int f = x.fence(x.sign(0, 500, 600, 100), true, true);
        Check.due("fence()", f, 1);
        Check.due("what it is", x.ofPart(f, 0), 6);
        Check.due("how many are in it", x.ofPart(f, 2), 1);
        Check.due("OWNER", x.ofPart(0, 1), f);
        Check.sizes(x, f, 0, 1300, 850, 350);
        Check.sizes(x, f, 1, 1300, 850, 350);
        Check.sizes(x, f, 2, 910, 595, 245);
        Check.sizes(x, f, 3, 650, 425, 175);
        x.top(f, 2);
        Check.lies(x, 0, 2, 280, 0);
    }

    private static void sides() {
        Ropewalk x = new Ropewalk();
        int left = x.fence(x.sign(0, 500, 600, 100), true, false);
        Check.sizes(x, left, 0, 900, 850, 350);
        x.top(left, 0);
        Check.lies(x, 0, 0, 400, 0);
        int right = x.fence(x.sign(0, 500, 600, 100), false, true);
        Check.sizes(x, right, 0, 900, 850, 350);
        x.top(right, 0);
        Check.lies(x, 2, 0, 0, 0);
    }

    private static void steps() {
        Ropewalk x = new Ropewalk();
        int f = x.fence(x.sign(0, 100, 550, 50), true, true);
        Check.sizes(x, f, 0, 900, 550, 50);
        x.resize(0, 100, 551, 50);
        Check.sizes(x, f, 0, 900, 850, 350);
        x.resize(0, 100, 550, 51);
        Check.sizes(x, f, 0, 900, 850, 350);
        x.resize(0, 100, 0, 0);
        Check.sizes(x, f, 0, 900, 550, 50);
        x.resize(0, 100, 0, 2000);
        // r is 2250, k 8
        Check.sizes(x, f, 0, 900, 2650, 2150);
        x.resize(0, 100, 2000, 0);
        // r is 1750, k 6
        Check.sizes(x, f, 0, 900, 2050, 1550);
    }

    private static void wrongOnes() {
        Ropewalk x = new Ropewalk();
        x.sign(0, 1, 1, 1);
        x.sign(0, 1, 1, 1);
        Check.noPart("a -1", x, () -> x.fence(-1, true, true));
        Check.noPart("a 2", x, () -> x.fence(2, true, true));
        Check.noPart("a 2, neither", x, () -> x.fence(2, false, false));
        Check.badArgument("neither", x, () -> x.fence(0, false, false));
        x.bar(0);
        Check.badState("an OWNER", x, () -> x.fence(0, true, true));
        Check.badArgument("an OWNER, neither", x, () -> x.fence(0, false, false));
        x.top(1, 0);
        Check.badState("the TOP", x, () -> x.fence(1, true, true));
        Ropewalk full = Check.full();
        Check.badState("a 61st one", full, () -> full.fence(0, true, true));
        Check.badArgument("a 61st one, neither", full, () -> full.fence(0, false, false));
    }
}
