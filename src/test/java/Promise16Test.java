/** Promise 16: size. */
final class Promise16Test {
    public static void main(String[] args) {
        Ropewalk x = new Ropewalk();
        int row = x.row();
        x.put(row, x.sign(0, 500, 600, 10));
        x.put(row, x.sign(2, 700, 300, 200));
        x.put(row, x.space(101));
        x.put(row, x.sign(5, 301, 0, 0));
        x.put(row, x.sign(0, 400, 601, 0));
        // 278 behind the first one, 167 behind the COMMA
        Check.sizes(x, row, 0, 500 + 278 + 700 + 101 + 301 + 167 + 400, 601, 200);
        Check.sizes(x, row, 1, 2447, 601, 200);
        Check.sizes(x, row, 2, 350 + 490 + 70 + 210 + 280, 420, 140);
        Check.sizes(x, row, 3, 250 + 350 + 50 + 150 + 200, 300, 100);
        // the STYLES of what is in what: a FRACTION's 2 in 1, a FRACTION's in it 3
        int inner = x.fraction(x.sign(0, 1000, 0, 0), x.sign(0, 0, 0, 0));
        int outer = x.fraction(inner, x.sign(0, 0, 0, 0));
        Check.due("a FRACTION's FRACTION in 0", x.size(outer, 0, 0), 700 + 240 + 240);
        Check.due("a FRACTION's FRACTION in 1", x.size(outer, 1, 0), 500 + 168 + 240);
        Check.due("a FRACTION's FRACTION in 2", x.size(outer, 2, 0), 500 + 120 + 168);
        Check.due("a FRACTION's FRACTION in 3", x.size(outer, 3, 0), 500 + 120 + 120);
        Check.noPart("part -1", x, () -> x.size(-1, 0, 0));
        Check.noPart("no PART, STYLE or what", x, () -> x.size(x.parts(), 4, 3));
        Check.badArgument("style -1", x, () -> x.size(0, -1, 0));
        Check.badArgument("style 4", x, () -> x.size(0, 4, 0));
        Check.badArgument("what -1", x, () -> x.size(0, 0, -1));
        Check.badArgument("what 3", x, () -> x.size(0, 0, 3));
        great();
        Check.end();
    }

    /** The greatest height that 60 PARTS can have: FRACTIONS in FENCES double it, again and again. */
    private static void great() {
        Ropewalk x = new Ropewalk();
        int inner = x.sign(0, 2000, 2000, 2000);
        for (int i = 0; i < 19; i++) {
            inner = x.fence(x.fraction(inner, x.sign(0, 0, 0, 0)), true, true);
        }
        int last = inner;
        long high = 1000;
        long deep = 1000;
        for (int i = 0; i < 19; i++) {
            high = 125 + 10 + 30 + deep + high;
            deep = 0;
            long steps = 1;
            while (steps * 150 < Math.max(high - 125, deep + 125)) {
                steps++;
            }
            high = Math.max(high, 125 + steps * 150);
            deep = steps * 150 - 125;
        }
        Check.due("HEIGHT", x.size(last, 3, 1), high);
        Check.due("DEPTH", x.size(last, 3, 2), deep);
        int root = x.root(last, x.space(1));
        x.top(root, 3);
        long up = (high + 60 + deep) * 60 / 100 - deep;
        Check.due("y of its index", x.place(root - 1, 2), up);
    }
}
