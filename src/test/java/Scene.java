import java.util.ArrayList;
import java.util.List;

/** Objects that are made by the same calls each time, and all that they answer. */
enum Scene {
    /** A new object. */
    NEW,
    /** One of each kind in a TOP or free, a full ROW, an empty one, and LINES that are kept. */
    FURNISHED,
    /** The same without a TOP. */
    NO_TOP,
    /** The same without LINES. */
    NO_LINES,
    /** The same with 60 PARTS. */
    FULL;

    static final int IN_FRACTION = 0;
    static final int FRACTION = 2;
    static final int TOP = 9;
    static final int FREE = 10;
    static final int OTHER = 11;
    static final int EMPTY_ROW = 12;
    static final int IN_MATRIX = 13;
    static final int MATRIX = 14;
    static final int TAKEN = 5;
    static final int INNER_ROW = 15;
    static final int BAR = 16;
    static final int ROOT = 18;
    static final int SCRIPTS = 21;
    static final int FENCE = 23;
    static final int SPACE = 24;
    static final int FULL_ROW = 25;
    static final int INNER_MATRIX = 42;
    static final int OUTER_ROW = 43;
    static final int FURNITURE = 44;
    static final int LINES = 3;
    static final int[] NO_ROWS = {FREE, SPACE, FRACTION, ROOT, SCRIPTS, FENCE, MATRIX, BAR};
    static final int[] NO_MATRICES = {FREE, SPACE, TOP, FRACTION, ROOT, SCRIPTS, FENCE, BAR};
    static final int[] NO_SIGNS = {SPACE, EMPTY_ROW, FRACTION, ROOT, SCRIPTS, FENCE, MATRIX, BAR};

    private static final int[] ROWS = {TOP, EMPTY_ROW, INNER_ROW, FULL_ROW, OUTER_ROW};
    private static final int MOST_QUESTIONS = 380;
    private static final long REFUSED = Long.MIN_VALUE;

    private List<Long> undisturbed;

    Ropewalk made() {
        Ropewalk x = new Ropewalk();
        if (this != NEW) {
            furnish(x);
            x.sign(0, 500, 510, 20);
            x.fence(22, true, false);
            x.space(77);
            fillRow(x);
            x.matrix(1, 1);
            x.row();
            x.put(OUTER_ROW, INNER_MATRIX);
            use(x);
        }
        while (this == FULL && x.parts() < 60) {
            x.sign(0, 100, 100, 100);
        }
        return x;
    }

    int parts() {
        return this == NEW ? 0 : this == FULL ? 60 : FURNITURE;
    }

    private static void furnish(Ropewalk x) {
        x.sign(0, 500, 600, 100);
        x.sign(0, 401, 500, 50);
        x.fraction(0, 1);
        x.sign(2, 700, 500, 0);
        x.space(50);
        x.sign(1, 600, 500, 30);
        x.sign(0, 333, 444, 111);
        x.sign(5, 120, 100, 60);
        x.sign(0, 400, 650, 150);
        x.row();
        int[] inTop = {2, 3, 6, 5, 8, 7, 4};
        for (int each : inTop) {
            x.put(TOP, each);
        }
        x.sign(0, 555, 666, 77);
        x.sign(3, 444, 555, 66);
        x.row();
        x.sign(0, 250, 350, 45);
        x.matrix(2, 3);
        x.fit(MATRIX, TAKEN, IN_MATRIX);
        x.row();
        x.bar(INNER_ROW);
        x.sign(0, 410, 420, 430);
        x.root(17, -1);
        x.sign(0, 300, 310, 320);
        x.sign(0, 210, 220, 230);
        x.scripts(19, 20, -1);
    }

    private static void fillRow(Ropewalk x) {
        int row = x.row();
        for (int i = 0; i < 16; i++) {
            x.put(row, x.sign(i % 6, 100 + 17 * i, 40 * i, 3 * i));
        }
    }

    /** The LINES are kept as they were ahead of a SIGN's other size. */
    private void use(Ropewalk x) {
        if (this != NO_LINES) {
            x.breakRow(TOP, 1600);
        }
        x.resize(3, 710, 510, 10);
        if (this != NO_TOP) {
            x.top(TOP, 1);
        }
    }

    /** What it answers if nothing else is called. */
    List<Long> answers() {
        if (undisturbed == null) {
            undisturbed = answersBehind("parts");
        }
        return undisturbed;
    }

    /** What it answers behind a call, asked of as many objects as keep it within an object's 512 calls. */
    List<Long> answersBehind(String call, int... with) {
        List<int[]> questions = questions();
        List<Long> answers = new ArrayList<>();
        Ropewalk x = null;
        for (int i = 0; i < questions.size(); i++) {
            if (i % MOST_QUESTIONS == 0) {
                x = made();
                answerOf(x, call, with);
            }
            int[] q = questions.get(i);
            answers.add(answerOf(x, ASKING[q[0]], java.util.Arrays.copyOfRange(q, 1, q.length)));
        }
        return answers;
    }

    private static long answerOf(Ropewalk x, String call, int... with) {
        try {
            return Calls.on(x, call, with);
        } catch (RuntimeException e) {
            return REFUSED + e.getClass().getName().hashCode();
        }
    }

    private static final String[] ASKING = {"parts", "ofPart", "size", "place", "classAt", "gap",
        "linesWith", "roomFor", "line", "cost", "density", "digest", "at", "widthWith"};

    private List<int[]> questions() {
        List<int[]> all = new ArrayList<>();
        all.add(new int[] {0});
        all.add(new int[] {11});
        for (int part = 0; part < parts(); part++) {
            askOfPart(part, all);
        }
        for (int row : ROWS) {
            askOfRow(row, all);
        }
        for (int line = 0; line <= 16; line++) {
            all.add(new int[] {8, line, 0});
            all.add(new int[] {8, line, 1});
        }
        all.add(new int[] {9});
        all.add(new int[] {10});
        for (int i = 0; i < 96; i++) {
            all.add(new int[] {12, i % 12 * 300 - 100, i / 12 * 200 - 700});
        }
        all.add(new int[] {13, IN_FRACTION, 1999});
        all.add(new int[] {13, FREE, 0});
        all.add(new int[] {11});
        return all;
    }

    private static void askOfPart(int part, List<int[]> all) {
        for (int what = 0; what <= 2; what++) {
            all.add(new int[] {1, part, what});
            for (int style = 0; style <= 3; style++) {
                all.add(new int[] {2, part, style, what});
            }
        }
        for (int what = 0; what <= 5; what++) {
            all.add(new int[] {3, part, what});
        }
    }

    private static void askOfRow(int row, List<int[]> all) {
        for (int place = 0; place < 16; place++) {
            all.add(new int[] {4, row, place});
            all.add(new int[] {5, row, place});
        }
        for (int room : new int[] {1, 700, 1600, 100000}) {
            all.add(new int[] {6, row, room});
        }
        for (int lines : new int[] {1, 2, 16}) {
            all.add(new int[] {7, row, lines});
        }
    }
}
