/**
 * What the tests share: each check that fails is printed, and end() tells how many tests passed and
 * failed, at last by the exit code. A test is what stands between a test() and the next one; a file
 * that begins none is one test.
 */
final class Check {
    interface Call {
        long run();
    }

    private static String name = "";
    private static int checks = 0;
    private static int wrong = 0;
    private static int passed = 0;
    private static int failed = 0;

    private Check() {
    }

    /** Begins a test, which has the sentence of the document as its name, or says it shortly. */
    static void test(String sentence) {
        if (checks > 0 || !name.isEmpty()) {
            close();
        }
        name = sentence;
    }

    private static void close() {
        if (wrong == 0 && checks > 0) {
            passed++;
        } else {
            failed++;
            System.out.println("FAILED: " + name + (checks == 0 ? " (nothing is checked)" : ""));
        }
        checks = 0;
        wrong = 0;
    }

    static void holds(String what, boolean isRight) {
        checks++;
        if (!isRight) {
            wrong++;
            System.out.println("it does not hold: " + what);
        }
    }

    static void due(String what, long got, long want) {
        checks++;
        if (got != want) {
            wrong++;
            System.out.println(what + " answered " + got + ", due is " + want);
        }
    }

    static void dueDouble(String what, double got, double want) {
        checks++;
        if (got != want) {
            wrong++;
            System.out.println(what + " answered " + got + ", due is " + want);
        }
    }

    /** The call must throw just this class. */
    static void thrown(String what, Class<?> due, Call call) {
        Class<?> its = null;
        try {
            call.run();
        } catch (RuntimeException e) {
            its = e.getClass();
        }
        checks++;
        if (its != due) {
            wrong++;
            System.out.println(what + " threw " + its + ", due is " + due);
        }
    }

    /** The call must throw just this class, and leave all answers as they were. */
    static void refused(String what, Class<?> due, Ropewalk x, Call call) {
        long before = x.digest();
        thrown(what, due, call);
        due(what + ": digest() behind it", x.digest(), before);
    }

    static void noPart(String what, Ropewalk x, Call call) {
        refused(what, IndexOutOfBoundsException.class, x, call);
    }

    static void badArgument(String what, Ropewalk x, Call call) {
        refused(what, IllegalArgumentException.class, x, call);
    }

    static void badState(String what, Ropewalk x, Call call) {
        refused(what, IllegalStateException.class, x, call);
    }

    static void sizes(Ropewalk x, int part, int style, int width, int height, int depth) {
        String what = "PART " + part + " in STYLE " + style + ": ";
        due(what + "WIDTH", x.size(part, style, 0), width);
        due(what + "HEIGHT", x.size(part, style, 1), height);
        due(what + "DEPTH", x.size(part, style, 2), depth);
    }

    /** Where a PART lies in the TOP: its STYLE, x and y. */
    static void lies(Ropewalk x, int part, int style, int itsX, int itsY) {
        String what = "PART " + part + " in the TOP: ";
        due(what + "STYLE", x.place(part, 0), style);
        due(what + "x", x.place(part, 1), itsX);
        due(what + "y", x.place(part, 2), itsY);
        for (int size = 0; size <= 2; size++) {
            due(what + "size " + size, x.place(part, 3 + size), x.size(part, style, size));
        }
    }

    static void kept(Ropewalk x, int[] parts, int[] widths, long cost) {
        for (int i = 0; i < parts.length; i++) {
            due("parts of LINE " + i, x.line(i, 0), parts[i]);
            due("WIDTH of LINE " + i, x.line(i, 1), widths[i]);
        }
        noPart("a LINE behind the last one", x, () -> x.line(parts.length, 0));
        due("cost()", x.cost(), cost);
    }

    /** A ROW of new SIGNS, each told as CLASS and width (height and depth are 0). */
    static int rowOf(Ropewalk x, int... classesAndWidths) {
        int row = x.row();
        for (int i = 0; i < classesAndWidths.length; i += 2) {
            x.put(row, x.sign(classesAndWidths[i], classesAndWidths[i + 1], 0, 0));
        }
        return row;
    }

    /** A ROW of so many SIGNS of the greatest width, in ROWS of 16: it has 16 at most of these. */
    static int wideRow(Ropewalk x, int signs, int widthOfOneMore) {
        int outer = x.row();
        int inner = 0;
        for (int i = 0; i < signs; i++) {
            if (i % 16 == 0) {
                inner = x.row();
                x.put(outer, inner);
            }
            x.put(inner, x.sign(0, 2000, 0, 0));
        }
        if (widthOfOneMore > 0) {
            x.put(outer, x.sign(0, widthOfOneMore, 0, 0));
        }
        return outer;
    }

    static Ropewalk full() {
        return signs(60);
    }

    static Ropewalk signs(int many) {
        Ropewalk x = new Ropewalk();
        for (int i = 0; i < many; i++) {
            x.sign(0, 100, 100, 100);
        }
        return x;
    }

    static void end() {
        close();
        System.out.println(passed + " passed, " + failed + " failed");
        if (failed != 0) {
            System.exit(1);
        }
    }
}
