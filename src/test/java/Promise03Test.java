/** Promise 3: space. */
final class Promise03Test {
    public static void main(String[] args) {
        Ropewalk x = new Ropewalk();
        Check.due("space(0)", x.space(0), 0);
        Check.due("space(2000)", x.space(2000), 1);
        Check.due("space(333)", x.space(333), 2);
        Check.due("what it is", x.ofPart(2, 0), 1);
        Check.sizes(x, 1, 0, 2000, 0, 0);
        Check.sizes(x, 2, 1, 333, 0, 0);
        Check.sizes(x, 2, 2, 233, 0, 0);
        Check.sizes(x, 2, 3, 166, 0, 0);
        Check.badArgument("space(-1)", x, () -> x.space(-1));
        Check.badArgument("space(2001)", x, () -> x.space(2001));
        Ropewalk full = Check.full();
        Check.badState("a 61st one", full, () -> full.space(1));
        Check.badArgument("a wrong 61st one", full, () -> full.space(-1));
        Check.end();
    }
}
