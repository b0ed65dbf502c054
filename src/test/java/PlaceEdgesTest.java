import java.util.ArrayList;
import java.util.List;

/** Terms 3, sentence by sentence: the TOP, the PLACES, and what is AT a place, edge by edge. */
final class PlaceEdgesTest {
    private interface Maker {
        Ropewalk made(int style);
    }

    private static final int MOST_CALLS = 400;

    public static void main(String[] args) {
        itselfToo();
        asTheyAreNow();
        oneTopAfterAnother();
        edgesOfOne();
        withoutExtent();
        hangingOut();
        equallyDeep();
        allEdges("of a ROW of several kinds", style -> Scene.FURNISHED.made());
        allEdges("of a MATRIX of all kinds", PlaceEdgesTest::allKinds);
        allEdges("of PARTS that overlap", PlaceEdgesTest::overlapping);
        Check.end();
    }

    private static void itselfToo() {
        Check.test("the TOP itself is in the TOP, too; x from where it begins, y from its line");
        for (int style = 0; style <= 3; style++) {
            Ropewalk x = allKinds(style);
            int top = x.parts() - 1;
            Check.due("top()", x.top(top, style), x.parts());
            Check.lies(x, top, style, 0, 0);
            int sign = x.sign(0, 9, 9, 9);
            Check.due("top() of a SIGN", x.top(sign, style), 1);
            Check.lies(x, sign, style, 0, 0);
            Check.thrown("one of the TOP before", IllegalStateException.class, () -> x.place(top, 0));
        }
    }

    private static void asTheyAreNow() {
        Check.test("always as they are now");
        Ropewalk x = new Ropewalk();
        int row = x.row();
        int matrix = x.matrix(1, 2);
        x.put(row, matrix);
        x.top(row, 1);
        int late = x.sign(2, 100, 100, 100);
        Check.thrown("told behind top()", IllegalStateException.class, () -> x.place(late, 1));
        x.put(row, late);
        Check.lies(x, late, 1, 600 + 278, 0);
        int inner = x.sign(0, 50, 60, 70);
        Check.due("at(), ahead of fit()", x.at(0, 0), matrix);
        x.fit(matrix, 0, inner);
        // t is 130, so the MATRIX is 315 high, and the SIGN is 60 of it
        Check.lies(x, inner, 1, 0, 255);
        Check.lies(x, late, 1, 650 + 278, 0);
        Check.due("at(), behind fit()", x.at(49, 314), inner);
        Check.due("above it", x.at(49, 315), -1);
        x.resize(inner, 51, 62, 0);
        Check.lies(x, inner, 1, 0, 281 - 62);
        Check.lies(x, late, 1, 651 + 278, 0);
        Check.due("at(), behind resize()", x.at(50, 280), inner);
        x.widthWith(inner, 2000);
        Check.due("at(), behind widthWith()", x.at(51, 280), matrix);
        Check.lies(x, late, 1, 651 + 278, 0);
        int bar = x.bar(x.sign(0, 5, 5, 5));
        x.fit(matrix, 1, bar);
        Check.lies(x, bar, 1, 651, 315 - 125);
        Check.lies(x, bar - 1, 1, 651, 315 - 125);
        Check.due("top() counts them all", x.top(row, 1), 6);
    }

    private static void oneTopAfterAnother() {
        Check.test("top: sets the TOP in the place of the one before, and its STYLE");
        Ropewalk x = new Ropewalk();
        int one = x.fence(x.sign(0, 100, 100, 100), true, true);
        int two = x.fence(x.sign(0, 200, 100, 100), true, true);
        x.top(one, 0);
        Check.lies(x, 0, 0, 400, 0);
        x.top(two, 2);
        Check.lies(x, 2, 2, 280, 0);
        Check.thrown("the one before", IllegalStateException.class, () -> x.place(one, 0));
        Check.thrown("what is in it", IllegalStateException.class, () -> x.place(0, 0));
        x.top(two, 3);
        Check.lies(x, 2, 3, 200, 0);
        x.top(one, 0);
        Check.lies(x, 0, 0, 400, 0);
        Check.thrown("the other one again", IllegalStateException.class, () -> x.place(2, 0));
    }

    private static void edgesOfOne() {
        Check.test("AT: x from its x on below that + its WIDTH, y from its y - DEPTH on below its y + HEIGHT");
        Ropewalk x = new Ropewalk();
        int bar = x.bar(x.fence(x.sign(0, 500, 600, 100), true, false));
        x.top(bar, 1);
        int[][] due = {{400, 0, 0}, {399, 0, 1}, {899, 599, 0}, {899, 600, 1}, {899, -100, 0}, {899, -101, 1},
            {0, 0, 1}, {-1, 0, -1}, {900, 0, -1}, {0, 849, 1}, {0, 850, 2}, {0, 969, 2}, {0, 970, -1},
            {0, -350, 1}, {0, -351, -1}};
        for (int[] each : due) {
            Check.due(Calls.told("at", each[0], each[1]), x.at(each[0], each[1]), each[2]);
        }
    }

    private static void withoutExtent() {
        Check.test("AT: nowhere without a WIDTH, or without HEIGHT and DEPTH");
        int[][] sizes = {{0, 100, 100}, {100, 0, 0}, {0, 0, 0}};
        for (int[] each : sizes) {
            Ropewalk x = new Ropewalk();
            x.top(x.sign(0, each[0], each[1], each[2]), 0);
            for (int i = -1; i <= 1; i++) {
                Check.due(Calls.told("at", i, 0), x.at(i, 0), -1);
                Check.due(Calls.told("at", 0, i), x.at(0, i), -1);
            }
        }
        Ropewalk x = new Ropewalk();
        x.top(x.sign(0, 1, 1, 0), 0);
        Check.due("the only place of the least SIGN", x.at(0, 0), 0);
        Check.due("behind it", x.at(1, 0), -1);
        Check.due("above it", x.at(0, 1), -1);
        Check.due("below it", x.at(0, -1), -1);
        x.resize(0, 1, 0, 1);
        Check.due("the only place of the least deep SIGN", x.at(0, -1), 0);
        Check.due("its line", x.at(0, 0), -1);
        x.top(0, 3);
        Check.due("cut to nothing", x.at(0, -1), -1);
    }

    private static void hangingOut() {
        Check.test("AT: whether that is in its OWNER's or not");
        Ropewalk x = new Ropewalk();
        int root = x.root(x.sign(0, 100, 0, 0), x.sign(0, 600, 0, 2000));
        int bar = x.bar(root);
        x.top(bar, 1);
        // the index begins at 0, lies at 72, and goes down to -928; the ROOT's and the BAR's DEPTH is 0
        Check.due("its lowest y", x.at(0, -928), 1);
        Check.due("below it", x.at(0, -929), -1);
        Check.due("its last x", x.at(299, -1), 1);
        Check.due("behind it, below the ROOT", x.at(300, -1), -1);
        Check.due("behind it, in the ROOT", x.at(300, 0), root);
        Check.due("above it, in the ROOT", x.at(0, 72), root);
        Check.due("above the ROOT", x.at(0, 120), bar);
    }

    private static void equallyDeep() {
        Check.test("at: is in the most others up to the TOP; of several the smallest number; -1 if there is none");
        for (int order = 0; order <= 1; order++) {
            Ropewalk x = overlapping(order);
            int index = order == 0 ? 0 : 1;
            int lower = 1 - index;
            x.top(x.parts() - 1, 3);
            // the index is from 60 to 209 across, and from -589 to 410 up; the lower one from 60 to 559, and -275 to 24
            Check.due("where both are, as deep in", x.at(100, 0), 0);
            Check.due("the first x of both", x.at(60, -100), 0);
            Check.due("ahead of both, in the FRACTION", x.at(59, -100), x.parts() - 1);
            Check.due("the index alone", x.at(100, 200), index);
            Check.due("the lower one alone", x.at(300, 0), lower);
            Check.due("none", x.at(100, -590), -1);
        }
    }

    /** A FRACTION of a ROOT, whose index hangs out of it, over the lower one's BAR; the one or the other is told first. */
    private static Ropewalk overlapping(int order) {
        Ropewalk x = new Ropewalk();
        boolean isIndexFirst = order % 2 == 0;
        int first = isIndexFirst ? x.sign(0, 300, 0, 2000) : x.sign(0, 1000, 600, 0);
        int second = isIndexFirst ? x.sign(0, 1000, 600, 0) : x.sign(0, 300, 0, 2000);
        int root = x.root(x.sign(0, 500, 600, 100), isIndexFirst ? first : second);
        x.top(x.fraction(root, x.bar(isIndexFirst ? second : first)), 3 - order);
        return x;
    }

    private static Ropewalk allKinds(int style) {
        Ropewalk x = new Ropewalk();
        int root = x.root(x.bar(x.sign(0, 400, 500, 600)), x.sign(0, 900, 300, 1900));
        int scripts = x.scripts(x.sign(0, 300, 900, 300), x.sign(0, 200, 300, 1400), x.sign(0, 310, 1500, 20));
        int fence = x.fence(x.fraction(x.sign(0, 100, 10, 0), x.sign(0, 90, 80, 70)), true, true);
        int row = x.row();
        x.put(row, x.sign(0, 150, 200, 10));
        x.put(row, x.sign(2, 150, 50, 10));
        x.put(row, x.space(45));
        x.put(row, x.sign(0, 0, 2000, 0));
        x.put(row, x.sign(0, 70, 0, 0));
        x.put(row, fence);
        int matrix = x.matrix(2, 2);
        x.fit(matrix, 0, root);
        x.fit(matrix, 2, scripts);
        x.fit(matrix, 3, row);
        int all = x.bar(matrix);
        x.top(all, style);
        return x;
    }

    /** At each edge of each PART, across and up, as its PLACE, its sizes and its OWNERS tell. */
    private static void allEdges(String what, Maker maker) {
        for (int style = 0; style <= 3; style++) {
            Check.test("at each edge " + what + ", STYLE " + style);
            List<long[]> boxes = boxes(maker.made(style));
            List<Integer> xs = new ArrayList<>();
            List<Integer> ys = new ArrayList<>();
            for (long[] b : boxes) {
                for (int i = -1; i <= 0; i++) {
                    xs.add((int) b[1] + i);
                    xs.add((int) (b[1] + b[3]) + i);
                    ys.add((int) (b[2] - b[5]) + i);
                    ys.add((int) (b[2] + b[4]) + i);
                }
            }
            compare(maker, style, boxes, xs, ys);
        }
    }

    /** Of each PART in the TOP: its number, x, y, WIDTH, HEIGHT, DEPTH, and how many it is in. */
    private static List<long[]> boxes(Ropewalk x) {
        List<long[]> all = new ArrayList<>();
        for (int part = 0; part < x.parts(); part++) {
            try {
                x.place(part, 0);
            } catch (IllegalStateException e) {
                // it is not in the TOP
                continue;
            }
            int in = 0;
            for (int owner = x.ofPart(part, 1); owner != -1; owner = x.ofPart(owner, 1)) {
                in++;
            }
            all.add(new long[] {part, x.place(part, 1), x.place(part, 2), x.place(part, 3), x.place(part, 4),
                x.place(part, 5), in});
        }
        return all;
    }

    private static void compare(Maker maker, int style, List<long[]> boxes, List<Integer> xs, List<Integer> ys) {
        int calls = 0;
        Ropewalk x = maker.made(style);
        for (int its : xs) {
            for (int up : ys) {
                if (calls == MOST_CALLS) {
                    x = maker.made(style);
                    calls = 0;
                }
                calls++;
                Check.due(Calls.told("at", its, up), x.at(its, up), expected(boxes, its, up));
            }
        }
    }

    private static long expected(List<long[]> boxes, int x, int y) {
        long best = -1;
        long in = -1;
        for (long[] b : boxes) {
            boolean isAt = x >= b[1] && x < b[1] + b[3] && y >= b[2] - b[5] && y < b[2] + b[4];
            if (isAt && b[6] > in) {
                in = b[6];
                best = b[0];
            }
        }
        return best;
    }
}
