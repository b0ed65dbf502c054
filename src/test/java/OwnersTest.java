/** Each PART is named in one other PART at most, and never in itself; the TOP is named nowhere. */
final class OwnersTest {
    private static final String[] NAMING = {"put", "fraction", "fraction", "root", "root", "root", "scripts",
        "scripts", "scripts", "scripts", "scripts", "fence", "fit", "bar"};
    /** The PARTS 0 to 3 are SIGNS, 4 is a ROW, 5 a MATRIX; what is named is the PART 0. */
    private static final int[][] WITH = {{4, 0}, {0, 1}, {1, 0}, {0, -1}, {0, 1}, {1, 0}, {0, 1, 2},
        {1, 0, 2}, {1, 2, 0}, {1, 0, -1}, {1, -1, 0}, {0, 1, 0}, {5, 1, 0}, {0}};

    public static void main(String[] args) {
        namedOnce();
        theTop();
        toldAhead();
        inItself();
        Check.end();
    }

    private static Ropewalk made() {
        Ropewalk x = Check.signs(4);
        x.row();
        x.matrix(1, 2);
        return x;
    }

    /** The PART 0 is named in one of each kind, by PARTS that no other call needs here. */
    private static int own(Ropewalk x, int way) {
        switch (way) {
            case 0:
                int row = x.row();
                x.put(row, 0);
                return row;
            case 1:
                return x.fraction(0, 3);
            case 2:
                return x.fraction(3, 0);
            case 3:
                return x.root(0, -1);
            case 4:
                return x.root(3, 0);
            case 5:
                return x.scripts(0, 3, -1);
            case 6:
                return x.scripts(3, 0, -1);
            case 7:
                return x.scripts(3, -1, 0);
            case 8:
                return x.fence(0, true, true);
            case 9:
                int matrix = x.matrix(1, 1);
                x.fit(matrix, 0, 0);
                return matrix;
            default:
                return x.bar(0);
        }
    }

    private static void namedOnce() {
        Check.test("each can be named in one other PART at most");
        for (int way = 0; way <= 10; way++) {
            for (int i = 0; i < NAMING.length; i++) {
                Ropewalk x = made();
                String call = NAMING[i];
                int[] with = WITH[i];
                int owner = own(x, way);
                Check.due("OWNER", x.ofPart(0, 1), owner);
                Check.badState(Calls.told(call, with) + " of one in way " + way, x, () -> Calls.on(x, call, with));
                Check.due("OWNER as before", x.ofPart(0, 1), owner);
                Check.due("OWNER of another", x.ofPart(1, 1), -1);
            }
        }
        Check.test("one that is named has that OWNER");
        for (int i = 0; i < NAMING.length; i++) {
            Ropewalk x = made();
            long answer = Calls.on(x, NAMING[i], WITH[i]);
            int owner = NAMING[i].equals("put") || NAMING[i].equals("fit") ? WITH[i][0] : 6;
            Check.due("the answer of " + Calls.told(NAMING[i], WITH[i]), answer, owner == 6 ? 6 : 1);
            Check.due("OWNER", x.ofPart(0, 1), owner);
            Check.due("OWNER of one that is not named", x.ofPart(3, 1), -1);
            Check.due("OWNER of the OWNER", x.ofPart(owner, 1), -1);
        }
    }

    private static void theTop() {
        Check.test("a PART that is the TOP now cannot be named");
        for (int i = 0; i < NAMING.length; i++) {
            Ropewalk x = made();
            String call = NAMING[i];
            int[] with = WITH[i];
            x.top(0, 1);
            Check.badState(Calls.told(call, with) + " of the TOP", x, () -> Calls.on(x, call, with));
            Check.due("OWNER", x.ofPart(0, 1), -1);
            x.top(3, 1);
            Check.due("parts()", x.parts(), 6);
            Check.due("with another TOP", Calls.on(x, call, with), call.equals("put") || call.equals("fit") ? 1 : 6);
        }
        Check.test("what is in the TOP now has an OWNER, and cannot be the TOP");
        Ropewalk x = made();
        x.put(4, 0);
        x.top(4, 0);
        Check.badState("one in the TOP", x, () -> x.top(0, 0));
        Check.due("the TOP once more", x.top(4, 3), 2);
        Check.due("another is put into the TOP", x.put(4, 1), 2);
        Check.due("it is in the TOP", x.place(1, 1), 50);
    }

    private static void toldAhead() {
        Check.test("told ahead of it, but for a ROW and a MATRIX");
        Ropewalk x = made();
        Check.noPart("fraction() of itself", x, () -> x.fraction(6, 1));
        Check.noPart("fraction() over itself", x, () -> x.fraction(1, 6));
        Check.noPart("root() of itself", x, () -> x.root(6, -1));
        Check.noPart("scripts() of itself", x, () -> x.scripts(0, 6, -1));
        Check.noPart("fence() of itself", x, () -> x.fence(6, true, true));
        Check.noPart("bar() over itself", x, () -> x.bar(6));
        int late = x.sign(0, 1, 1, 1);
        Check.due("a later one into a ROW", x.put(4, late), 1);
        Check.due("a later one into a MATRIX", x.fit(5, 0, x.sign(0, 1, 1, 1)), 1);
    }

    private static void inItself() {
        Check.test("one is never in itself");
        Ropewalk x = made();
        Check.badState("a ROW in itself", x, () -> x.put(4, 4));
        Check.badState("a MATRIX in itself", x, () -> x.fit(5, 0, 5));
        Check.test("nor in one that is in it, and so on");
        for (int kind = 0; kind <= 6; kind++) {
            Ropewalk y = made();
            int outer = wrapped(y, kind, 4);
            Check.badState("a ROW in what is around it, " + kind, y, () -> y.put(4, outer));
            int farther = wrapped(y, (kind + 3) % 7, outer);
            Check.badState("a ROW in what is farther around it, " + kind, y, () -> y.put(4, farther));
            int other = wrapped(y, kind, 5);
            Check.badState("a MATRIX in what is around it, " + kind, y, () -> y.fit(5, 0, other));
            int another = wrapped(y, (kind + 3) % 7, other);
            Check.badState("a MATRIX in what is farther around it, " + kind, y, () -> y.fit(5, 1, another));
            Check.due("the one in the other", y.put(4, another), 1);
            Check.badState("and then not the other way round", y, () -> y.fit(5, 0, farther));
        }
    }

    private static int wrapped(Ropewalk x, int kind, int part) {
        switch (kind) {
            case 0:
                return x.fraction(x.space(1), part);
            case 1:
                return x.root(x.space(1), part);
            case 2:
                return x.scripts(x.space(1), -1, part);
            case 3:
                return x.fence(part, false, true);
            case 4:
                return x.bar(part);
            case 5:
                int row = x.row();
                x.put(row, part);
                return row;
            default:
                int matrix = x.matrix(2, 2);
                x.fit(matrix, 3, part);
                return matrix;
        }
    }
}
