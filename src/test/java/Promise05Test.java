/** Promise 5: put. */
final class Promise05Test {
    public static void main(String[] args) {
        ordinary();
        wrongOnes();
        inItself();
        Check.end();
    }

    private static void ordinary() {
        Ropewalk x = new Ropewalk();
        int row = x.row();
        for (int i = 1; i <= 16; i++) {
            Check.due("put() " + i, x.put(row, x.sign(0, i, 0, 0)), i);
        }
        Check.due("how many are in it", x.ofPart(row, 2), 16);
        Check.due("OWNER", x.ofPart(16, 1), row);
        x.top(row, 0);
        Check.lies(x, 16, 0, 15 * 16 / 2, 0);
        int one = x.sign(0, 1, 1, 1);
        Check.badState("a 17th one", x, () -> x.put(row, one));
    }

    private static void wrongOnes() {
        Ropewalk x = new Ropewalk();
        int row = x.row();
        int one = x.sign(0, 1, 1, 1);
        int two = x.sign(0, 1, 1, 1);
        Check.noPart("row -1", x, () -> x.put(-1, one));
        Check.noPart("row 3", x, () -> x.put(3, one));
        Check.noPart("part -1", x, () -> x.put(row, -1));
        Check.noPart("part 3", x, () -> x.put(row, 3));
        Check.noPart("no ROW, and no PART", x, () -> x.put(one, 3));
        Check.badArgument("no ROW", x, () -> x.put(one, two));
        Check.badArgument("no ROW, and in itself", x, () -> x.put(one, one));
        x.put(row, one);
        Check.badState("one with an OWNER", x, () -> x.put(row, one));
        Check.badArgument("no ROW, and one with an OWNER", x, () -> x.put(two, one));
        x.top(two, 0);
        Check.badState("the TOP", x, () -> x.put(row, two));
        x.top(row, 0);
        Check.due("the TOP of before", x.put(row, two), 2);
        Check.due("into the TOP", x.put(row, x.space(5)), 3);
    }

    private static void inItself() {
        Ropewalk x = new Ropewalk();
        int inner = x.row();
        int outer = x.row();
        int bar = x.bar(inner);
        Check.badState("itself", x, () -> x.put(outer, outer));
        Check.badState("a BAR over the ROW", x, () -> x.put(inner, bar));
        Check.due("the BAR into another ROW", x.put(outer, bar), 1);
        Check.badState("what is two further out", x, () -> x.put(inner, outer));
        Check.due("a ROW told ahead", x.put(inner, x.row()), 1);
    }
}
