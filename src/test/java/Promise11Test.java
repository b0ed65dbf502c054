/** Promise 11: fit. */
final class Promise11Test {
    public static void main(String[] args) {
        ordinary();
        wrongOnes();
        inItself();
        Check.end();
    }

    private static void ordinary() {
        Ropewalk x = new Ropewalk();
        int m = x.matrix(2, 2);
        int one = x.sign(0, 500, 600, 100);
        int two = x.sign(0, 301, 400, 51);
        int three = x.sign(0, 101, 100, 0);
        Check.due("fit() at 0", x.fit(m, 0, one), 1);
        Check.due("fit() at 3", x.fit(m, 3, two), 2);
        Check.due("OWNER", x.ofPart(two, 1), m);
        Check.sizes(x, m, 1, 1401, 975, 476);
        Check.sizes(x, m, 0, 1401, 975, 476);
        Check.due("fit() at 2", x.fit(m, 2, three), 3);
        Check.due("how many are in it", x.ofPart(m, 2), 3);
        Check.sizes(x, m, 0, 1401, 975, 476);
        x.top(m, 0);
        Check.lies(x, one, 1, 0, 375);
        Check.lies(x, two, 1, 1100, -425);
        Check.lies(x, three, 1, 199, -425);
        // columns 350 and 210, rows 420 + 70 and 280 + 35, t is 1015
        Check.sizes(x, m, 2, 980, 682, 333);
        x.top(m, 2);
        Check.lies(x, one, 2, 0, 262);
        Check.lies(x, three, 2, 140, -298);
        Check.lies(x, two, 2, 770, -298);
        x.top(m, 1);
        Check.lies(x, one, 1, 0, 375);
        int four = x.sign(0, 700, 0, 0);
        Check.due("WIDTH ahead of fit()", x.size(m, 1, 0), 1401);
        x.fit(m, 1, four);
        Check.due("WIDTH behind fit()", x.size(m, 1, 0), 1800);
    }

    private static void wrongOnes() {
        Ropewalk x = new Ropewalk();
        int m = x.matrix(2, 3);
        int one = x.sign(0, 1, 1, 1);
        int two = x.sign(0, 1, 1, 1);
        Check.noPart("matrix -1", x, () -> x.fit(-1, 0, one));
        Check.noPart("matrix 3", x, () -> x.fit(3, 0, one));
        Check.noPart("part -1", x, () -> x.fit(m, 0, -1));
        Check.noPart("part 3, and no place", x, () -> x.fit(m, 6, 3));
        Check.badArgument("no MATRIX", x, () -> x.fit(one, 0, two));
        Check.badArgument("place -1", x, () -> x.fit(m, -1, one));
        Check.badArgument("place 6", x, () -> x.fit(m, 6, one));
        Check.due("the last place", x.fit(m, 5, one), 1);
        Check.badState("a taken place", x, () -> x.fit(m, 5, two));
        Check.badState("one with an OWNER", x, () -> x.fit(m, 0, one));
        Check.badArgument("no place, one with an OWNER", x, () -> x.fit(m, 6, one));
        x.top(two, 0);
        Check.badState("the TOP", x, () -> x.fit(m, 0, two));
        x.top(m, 0);
        Check.due("into the TOP", x.fit(m, 0, two), 2);
    }

    private static void inItself() {
        Ropewalk x = new Ropewalk();
        int m = x.matrix(1, 1);
        int row = x.row();
        Check.badState("itself", x, () -> x.fit(m, 0, m));
        x.put(row, m);
        Check.badState("the ROW that it is in", x, () -> x.fit(m, 0, row));
        Check.due("a ROW told behind it", x.fit(m, 0, x.row()), 1);
    }
}
