/** What the tests share: each check that fails is printed, and end() tells it by the exit code. */
final class Check {
    interface Call {
        long run();
    }

    private static int wrong = 0;
    private static int all = 0;

    private Check() {
    }

    static void due(String what, long got, long want) {
        all++;
        if (got != want) {
            wrong++;
            System.out.println(what + " answered " + got + ", due is " + want);
        }
    }

    static void dueDouble(String what, double got, double want) {
        all++;
        if (got != want) {
            wrong++;
            System.out.println(what + " answered " + got + ", due is " + want);
        }
    }

    /** The call must throw just this class, and leave all answers as they were. */
    static void refused(String what, Class<?> due, Ropewalk x, Call call) {
        long before = x.digest();
        Class<?> thrown = null;
        try {
            call.run();
        } catch (RuntimeException e) {
            thrown = e.getClass();
        }
        all++;
        if (thrown != due) {
            wrong++;
            System.out.println(what + " threw " + thrown + ", due is " + due);
        }
        due(what + ": digest() behind it", x.digest(), before);
    }

    static void noPart(String what, Ropewalk x, Call call) {
        refused(what, IndexOutOfBoundsException.class, x, call);
    }

    static void badArgument(String what, Ropewalk x, Call call) {
        refused(what, IllegalArgumentException.class, x, call);
    }

    static void badState(String what, Ropewalk x, Call call) {
        refused(what, IllegalStateException.class, x, call);
    }

    static void sizes(Ropewalk x, int part, int style, int width, int height, int depth) {
        String what = "PART " + part + " in STYLE " + style + ": ";
        due(what + "WIDTH", x.size(part, style, 0), width);
        due(what + "HEIGHT", x.size(part, style, 1), height);
        due(what + "DEPTH", x.size(part, style, 2), depth);
    }

    /** Where a PART lies in the TOP: its STYLE, x and y. */
    static void lies(Ropewalk x, int part, int style, int itsX, int itsY) {
        String what = "PART " + part + " in the TOP: ";
        due(what + "STYLE", x.place(part, 0), style);
        due(what + "x", x.place(part, 1), itsX);
        due(what + "y", x.place(part, 2), itsY);
        for (int size = 0; size <= 2; size++) {
            due(what + "size " + size, x.place(part, 3 + size), x.size(part, style, size));
        }
    }

    static void kept(Ropewalk x, int[] parts, int[] widths, long cost) {
        for (int i = 0; i < parts.length; i++) {
            due("parts of LINE " + i, x.line(i, 0), parts[i]);
            due("WIDTH of LINE " + i, x.line(i, 1), widths[i]);
        }
        noPart("a LINE behind the last one", x, () -> x.line(parts.length, 0));
        due("cost()", x.cost(), cost);
    }

    /** A ROW of new SIGNS, each told as CLASS and width (height and depth are 0). */
    static int rowOf(Ropewalk x, int... classesAndWidths) {
        int row = x.row();
        for (int i = 0; i < classesAndWidths.length; i += 2) {
            x.put(row, x.sign(classesAndWidths[i], classesAndWidths[i + 1], 0, 0));
        }
        return row;
    }

    static Ropewalk full() {
        Ropewalk x = new Ropewalk();
        for (int i = 0; i < 60; i++) {
            x.sign(0, 100, 100, 100);
        }
        return x;
    }

    static void end() {
        System.out.println(wrong == 0 ? all + " checks hold" : wrong + " of " + all + " checks do not hold");
        if (wrong != 0 || all == 0) {
            System.exit(1);
        }
    }
}
