/** Promise 15: ofPart. */
final class Promise15Test {
    public static void main(String[] args) {
        Ropewalk x = new Ropewalk();
        x.sign(5, 1, 1, 1);
        x.space(1);
        x.row();
        x.fraction(0, 1);
        x.root(3, -1);
        x.scripts(4, -1, 2);
        x.fence(5, false, true);
        x.matrix(1, 2);
        x.fit(7, 1, 6);
        x.bar(7);
        int[] owners = {3, 3, 5, 4, 5, 6, 7, 8, -1};
        int[] counts = {0, 0, 0, 2, 1, 2, 1, 1, 1};
        for (int i = 0; i < 9; i++) {
            Check.due("what " + i + " is", x.ofPart(i, 0), i);
            Check.due("OWNER of " + i, x.ofPart(i, 1), owners[i]);
            Check.due("how many are in " + i, x.ofPart(i, 2), counts[i]);
        }
        Check.noPart("part -1", x, () -> x.ofPart(-1, 0));
        Check.noPart("part 9, what 3", x, () -> x.ofPart(9, 3));
        Check.badArgument("what -1", x, () -> x.ofPart(0, -1));
        Check.badArgument("what 3", x, () -> x.ofPart(0, 3));
        Check.end();
    }
}
