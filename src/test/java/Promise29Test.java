/** Promise 29: digest. */
final class Promise29Test {
    private static long d;

    public static void main(String[] args) {
        String[] stages = {"a new object", "a ROW", "a TOP", "kept LINES", "two ROWS", "another size", "other LINES"};
        for (int stage = 0; stage < stages.length; stage++) {
            same(stages[stage], made(stage));
        }
        // 3000 wide, and 1 wider: the one needs one LINE in a room of 3000, the other two
        int[] long3000 = {0, 2000, 2, 222, 0, 222};
        int[] long3001 = {0, 2000, 2, 222, 0, 223};
        for (int[] each : new int[][] {long3000, long3001}) {
            Ropewalk y = new Ropewalk();
            int wide = Check.rowOf(y, each);
            Check.due("WIDTH", y.size(wide, 1, 0), 2778 + each[5]);
            same("a ROW about as wide as the room", y);
        }
        Check.due("digest() of another that is made by the same calls", made(6).digest(), made(6).digest());
        Check.end();
    }

    private static Ropewalk made(int stage) {
        Ropewalk x = new Ropewalk();
        int row = stage >= 1 ? Check.rowOf(x, 0, 500, 2, 700, 0, 400, 1, 600, 0, 300) : 0;
        if (stage >= 2) {
            int f = x.fraction(x.sign(3, 500, 600, 100), x.sign(4, 401, 500, 50));
            x.top(f, 1);
        }
        if (stage >= 3) {
            x.breakRow(row, 1600);
        }
        if (stage >= 4) {
            x.row();
            x.put(row, x.space(100));
            x.top(row, 0);
        }
        if (stage >= 5) {
            x.resize(6, 2000, 2000, 2000);
        }
        if (stage >= 6) {
            x.breakRow(row, 1);
        }
        return x;
    }

    private static void add(long number) {
        d = d * 31 + number;
    }

    private static void same(String what, Ropewalk x) {
        d = 58074;
        add(x.parts());
        for (int part = 0; part < x.parts(); part++) {
            addPart(x, part);
        }
        for (int part = 0; part < x.parts(); part++) {
            if (x.ofPart(part, 0) == 2) {
                addRow(x, part);
            }
        }
        int lines = countKept(x);
        add(lines);
        for (int line = 0; line < lines; line++) {
            add(x.line(line, 0));
            add(x.line(line, 1));
        }
        add(x.cost());
        Check.due("digest() of " + what, x.digest(), d);
    }

    private static void addPart(Ropewalk x, int part) {
        for (int what = 0; what <= 2; what++) {
            add(x.ofPart(part, what));
        }
        for (int style = 0; style <= 2; style += 2) {
            for (int what = 0; what <= 2; what++) {
                add(x.size(part, style, what));
            }
        }
        try {
            for (int what = 0; what <= 5; what++) {
                add(x.place(part, what));
            }
        } catch (IllegalStateException e) {
            // it is not in the TOP, and adds nothing
            return;
        }
    }

    private static void addRow(Ropewalk x, int row) {
        for (int place = 0; place < x.ofPart(row, 2); place++) {
            add(x.classAt(row, place));
            add(x.gap(row, place));
        }
        add(x.linesWith(row, 3000));
        add(x.roomFor(row, 2));
    }

    private static int countKept(Ropewalk x) {
        int lines = 0;
        while (lines < 17) {
            try {
                x.line(lines, 0);
            } catch (IndexOutOfBoundsException e) {
                return lines;
            }
            lines++;
        }
        return lines;
    }
}
