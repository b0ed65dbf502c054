/** Promise 18: place. */
final class Promise18Test {
    public static void main(String[] args) {
        nested();
        wrongOnes();
        Check.end();
    }

    /** A ROW of a SIGN, a SPACE, and a FENCE of SCRIPTS on a FRACTION. */
    private static void nested() {
        Ropewalk x = new Ropewalk();
        int a = x.sign(0, 500, 600, 100);
        int b = x.sign(0, 400, 500, 50);
        int fraction = x.fraction(a, b);
        int upper = x.sign(0, 300, 400, 0);
        int scripts = x.scripts(fraction, upper, -1);
        int fence = x.fence(scripts, true, true);
        int sign = x.sign(2, 700, 500, 0);
        int space = x.space(50);
        int row = x.row();
        x.put(row, sign);
        x.put(row, space);
        x.put(row, fence);
        x.top(row, 0);
        Check.lies(x, row, 0, 0, 0);
        Check.lies(x, sign, 0, 0, 0);
        Check.lies(x, space, 0, 700, 0);
        Check.lies(x, fence, 0, 750, 0);
        Check.lies(x, scripts, 0, 1150, 0);
        Check.lies(x, fraction, 0, 1150, 0);
        Check.lies(x, a, 1, 1150 + 120, 490);
        Check.lies(x, b, 1, 1150 + 170, -390);
        // the FRACTION is 1090 high
        Check.lies(x, upper, 2, 1150 + 740, 890);
        Check.due("WIDTH", x.place(upper, 3), 210);
        Check.due("HEIGHT", x.place(upper, 4), 280);
        Check.due("DEPTH", x.place(a, 5), 100);
        x.resize(sign, 100, 0, 0);
        Check.lies(x, upper, 2, 550 + 740, 890);
        int late = x.sign(0, 1, 1, 1);
        Check.badState("told later", x, () -> x.place(late, 1));
        x.put(row, late);
        Check.lies(x, late, 0, x.size(row, 0, 0) - 1, 0);
        x.top(row, 3);
        Check.lies(x, upper, 3, 50 + 25 + 200 + x.size(fraction, 3, 0), x.size(fraction, 3, 1) - 100);
    }

    private static void wrongOnes() {
        Ropewalk x = new Ropewalk();
        x.sign(0, 1, 1, 1);
        x.sign(0, 1, 1, 1);
        Check.badState("no TOP", x, () -> x.place(0, 0));
        Check.badArgument("no TOP, what 6", x, () -> x.place(0, 6));
        x.top(0, 0);
        Check.badState("not in it", x, () -> x.place(1, 0));
        Check.badArgument("not in it, what -1", x, () -> x.place(1, -1));
        Check.noPart("part -1", x, () -> x.place(-1, 0));
        Check.noPart("part 2, what 6", x, () -> x.place(2, 6));
        Check.badArgument("what -1", x, () -> x.place(0, -1));
        Check.badArgument("what 6", x, () -> x.place(0, 6));
    }
}
