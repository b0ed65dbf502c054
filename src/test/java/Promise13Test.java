/** Promise 13: resize. */
final class Promise13Test {
    public static void main(String[] args) {
        Ropewalk x = new Ropewalk();
        int one = x.sign(2, 500, 600, 100);
        int two = x.sign(0, 300, 300, 50);
        int space = x.space(10);
        int row = x.row();
        x.put(row, one);
        x.put(row, two);
        x.top(row, 0);
        x.breakRow(row, 1000);
        long cost = x.cost();
        Check.due("resize()", x.resize(one, 700, 800, 0), 500);
        Check.due("resize() again", x.resize(one, 2000, 0, 2000), 700);
        Check.sizes(x, one, 0, 2000, 0, 2000);
        Check.sizes(x, one, 3, 1000, 0, 1000);
        Check.sizes(x, row, 0, 2578, 300, 2000);
        Check.lies(x, two, 0, 2278, 0);
        Check.due("the CLASS as before", x.classAt(row, 0), 2);
        Check.due("the LINES as before", x.line(0, 1), 500);
        Check.due("cost() as before", x.cost(), cost);
        Check.due("to nothing", x.resize(one, 0, 0, 0), 2000);
        Check.sizes(x, one, 0, 0, 0, 0);
        Check.noPart("part -1", x, () -> x.resize(-1, 1, 1, 1));
        Check.noPart("part 4, and no size", x, () -> x.resize(4, -1, 1, 1));
        Check.badArgument("a SPACE", x, () -> x.resize(space, 1, 0, 0));
        Check.badArgument("a ROW", x, () -> x.resize(row, 1, 1, 1));
        Check.badArgument("width -1", x, () -> x.resize(two, -1, 1, 1));
        Check.badArgument("width 2001", x, () -> x.resize(two, 2001, 1, 1));
        Check.badArgument("height -1", x, () -> x.resize(two, 1, -1, 1));
        Check.badArgument("height 2001", x, () -> x.resize(two, 1, 2001, 1));
        Check.badArgument("depth -1", x, () -> x.resize(two, 1, 1, -1));
        Check.badArgument("depth 2001", x, () -> x.resize(two, 1, 1, 2001));
        Check.end();
    }
}
