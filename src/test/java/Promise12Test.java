/** Promise 12: bar. */
final class Promise12Test {
    public static void main(String[] args) {
        Ropewalk x = new Ropewalk();
        int a = x.sign(0, 501, 601, 101);
        int bar = x.bar(a);
        Check.due("bar()", bar, 1);
        Check.due("what it is", x.ofPart(bar, 0), 8);
        Check.due("how many are in it", x.ofPart(bar, 2), 1);
        Check.due("OWNER", x.ofPart(a, 1), bar);
        Check.sizes(x, bar, 0, 501, 721, 101);
        Check.sizes(x, bar, 1, 501, 721, 101);
        Check.sizes(x, bar, 2, 350, 504, 70);
        Check.sizes(x, bar, 3, 250, 360, 50);
        x.top(bar, 2);
        Check.lies(x, a, 2, 0, 0);
        Check.noPart("a -1", x, () -> x.bar(-1));
        Check.noPart("a 2", x, () -> x.bar(2));
        Check.badState("an OWNER", x, () -> x.bar(a));
        Check.badState("the TOP", x, () -> x.bar(bar));
        Ropewalk full = Check.full();
        Check.badState("a 61st one", full, () -> full.bar(0));
        Check.noPart("a 61st one of none", full, () -> full.bar(60));
        deep();
        Check.end();
    }

    /** 59 BARS, one over the other. */
    private static void deep() {
        Ropewalk x = new Ropewalk();
        x.sign(0, 100, 100, 10);
        for (int i = 1; i < 60; i++) {
            Check.due("bar() " + i, x.bar(i - 1), i);
        }
        Check.sizes(x, 59, 0, 100, 100 + 59 * 120, 10);
        Check.due("top()", x.top(59, 3), 60);
        Check.due("HEIGHT", x.place(59, 4), 50 + 59 * 60);
        Check.due("at()", x.at(0, 0), 0);
        Check.due("at(), far up", x.at(0, 50 + 58 * 60), 59);
    }
}
