/** Promise 20: classAt. */
final class Promise20Test {
    private static final int SPACE = 6;
    private static final int FENCE = 7;

    public static void main(String[] args) {
        told();
        joining();
        spaces();
        wrongOnes();
        Check.end();
    }

    /** A ROW of these CLASSES (or a SPACE, or a FENCE), and the CLASSES that are due in it. */
    private static void reckoned(int[] told, int[] due) {
        Ropewalk x = new Ropewalk();
        int row = x.row();
        for (int each : told) {
            int part = each == SPACE ? x.space(9) : x.sign(each < SPACE ? each : 2, 9, 9, 9);
            x.put(row, each == FENCE ? x.fence(part, true, true) : part);
        }
        StringBuilder what = new StringBuilder("classAt() in");
        for (int each : told) {
            what.append(' ').append(each);
        }
        for (int i = 0; i < due.length; i++) {
            Check.due(what.toString() + " of " + i, x.classAt(row, i), due[i]);
        }
    }

    private static void told() {
        reckoned(new int[] {0, 2, 3, 4, 5, SPACE, FENCE}, new int[] {0, 2, 3, 4, 5, 0, 0});
        reckoned(new int[] {5}, new int[] {5});
        reckoned(new int[] {2, 2}, new int[] {2, 2});
    }

    private static void joining() {
        reckoned(new int[] {1}, new int[] {0});
        reckoned(new int[] {0, 1, 0}, new int[] {0, 1, 0});
        reckoned(new int[] {1, 0}, new int[] {0, 0});
        reckoned(new int[] {0, 1}, new int[] {0, 0});
        reckoned(new int[] {4, 1, 3}, new int[] {4, 1, 3});
        reckoned(new int[] {FENCE, 1, FENCE}, new int[] {0, 1, 0});
        reckoned(new int[] {2, 1, 0}, new int[] {2, 0, 0});
        reckoned(new int[] {3, 1, 0}, new int[] {3, 0, 0});
        reckoned(new int[] {5, 1, 0}, new int[] {5, 0, 0});
        reckoned(new int[] {0, 1, 2}, new int[] {0, 0, 2});
        reckoned(new int[] {0, 1, 4}, new int[] {0, 0, 4});
        reckoned(new int[] {0, 1, 5}, new int[] {0, 0, 5});
        // of two the first one joins, so the second one cannot
        reckoned(new int[] {0, 1, 1, 0}, new int[] {0, 1, 0, 0});
        // the first one is PLAIN, so the second one can
        reckoned(new int[] {1, 1, 0}, new int[] {0, 1, 0});
        reckoned(new int[] {2, 1, 1, 0}, new int[] {2, 0, 1, 0});
        reckoned(new int[] {0, 1, 1, 1, 0}, new int[] {0, 1, 0, 1, 0});
        reckoned(new int[] {0, 1, 1}, new int[] {0, 1, 0});
    }

    private static void spaces() {
        reckoned(new int[] {SPACE, 1, 0}, new int[] {0, 0, 0});
        reckoned(new int[] {0, 1, SPACE}, new int[] {0, 0, 0});
        reckoned(new int[] {0, SPACE, 1, SPACE, SPACE, 0}, new int[] {0, 0, 1, 0, 0, 0});
        reckoned(new int[] {2, SPACE, 1, 0}, new int[] {2, 0, 0, 0});
        reckoned(new int[] {0, 1, SPACE, 4}, new int[] {0, 0, 0, 4});
    }

    private static void wrongOnes() {
        Ropewalk x = new Ropewalk();
        int row = Check.rowOf(x, 0, 5, 1, 5);
        Check.due("the last one", x.classAt(row, 1), 0);
        x.put(row, x.sign(0, 5, 5, 5));
        Check.due("with one behind it", x.classAt(row, 1), 1);
        int empty = x.row();
        Check.noPart("row -1", x, () -> x.classAt(-1, 0));
        Check.noPart("row 5", x, () -> x.classAt(5, -1));
        Check.badArgument("no ROW", x, () -> x.classAt(1, 0));
        Check.badArgument("place -1", x, () -> x.classAt(row, -1));
        Check.badArgument("place 3", x, () -> x.classAt(row, 3));
        Check.badArgument("an empty ROW", x, () -> x.classAt(empty, 0));
    }
}
