/** Promise 17: top. */
final class Promise17Test {
    public static void main(String[] args) {
        Ropewalk x = new Ropewalk();
        int one = x.sign(0, 500, 600, 100);
        int two = x.sign(0, 400, 500, 50);
        int fraction = x.fraction(one, two);
        int row = x.row();
        Check.due("top() of a FRACTION", x.top(fraction, 0), 3);
        Check.lies(x, fraction, 0, 0, 0);
        Check.lies(x, one, 1, 120, 490);
        Check.due("top() of an empty ROW", x.top(row, 3), 1);
        Check.badState("what is no longer in it", x, () -> x.place(one, 0));
        Check.due("a TOP of before can be named", x.put(row, fraction), 1);
        Check.lies(x, fraction, 3, 0, 0);
        Check.due("top() again", x.top(row, 2), 4);
        Check.lies(x, row, 2, 0, 0);
        Check.lies(x, two, 3, 109, -131);
        Check.noPart("part -1", x, () -> x.top(-1, 0));
        Check.noPart("part 4, style 4", x, () -> x.top(4, 4));
        Check.badArgument("style -1", x, () -> x.top(row, -1));
        Check.badArgument("style 4", x, () -> x.top(row, 4));
        Check.badArgument("style 4, with an OWNER", x, () -> x.top(one, 4));
        Check.badState("with an OWNER", x, () -> x.top(one, 0));
        Check.badState("with the TOP as its OWNER", x, () -> x.top(fraction, 0));
        Check.end();
    }
}
