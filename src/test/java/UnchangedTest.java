/** What asks, and is answered, changes nothing: neither what it asked of, nor the TOP, nor the LINES that are kept. */
final class UnchangedTest {
    public static void main(String[] args) {
        String[] calls = {"parts", "ofPart", "ofPart", "size", "size", "place", "place", "at", "at", "classAt", "gap",
            "line", "line", "cost", "linesWith", "linesWith", "linesWith", "roomFor", "roomFor", "widthWith",
            "widthWith", "widthWith", "density", "digest"};
        int[][] with = {{}, {Scene.MATRIX, 2}, {0, 1}, {Scene.TOP, 3, 0}, {Scene.FENCE, 0, 2}, {0, 0}, {Scene.TOP, 5},
            {0, 0}, {-1, -1}, {Scene.TOP, 3}, {Scene.FULL_ROW, 15}, {0, 0}, {Scene.LINES - 1, 1}, {}, {Scene.TOP, 1},
            {Scene.FULL_ROW, 1000}, {Scene.EMPTY_ROW, 100000}, {Scene.TOP, 1}, {Scene.FULL_ROW, 16},
            {Scene.IN_FRACTION, 2000}, {Scene.FREE, 0}, {Scene.IN_MATRIX, 2000}, {}, {}};
        for (int i = 0; i < calls.length; i++) {
            Check.test(Calls.told(calls[i], with[i]) + " changes nothing");
            Calls.on(Scene.FURNISHED.made(), calls[i], with[i]);
            Check.holds("all answers as before",
                    Scene.FURNISHED.answersBehind(calls[i], with[i]).equals(Scene.FURNISHED.answers()));
        }
        Check.test("breakRow() changes the LINES that are kept alone");
        Ropewalk x = Scene.NO_LINES.made();
        Ropewalk y = Scene.NO_LINES.made();
        x.breakRow(Scene.EMPTY_ROW, 1);
        Check.due("digest() behind what keeps none", x.digest(), y.digest());
        x.breakRow(Scene.TOP, 1600);
        x.breakRow(Scene.EMPTY_ROW, 1);
        Check.due("digest() when none are kept again", x.digest(), y.digest());
        Check.end();
    }
}
