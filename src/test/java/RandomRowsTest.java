/** ROWS that can be broken in many ways of equal COST, each broken as by the model, which tries all ways. */
final class RandomRowsTest {
    private static final int ROWS = 4000;

    private static long seed = 77;
    private static int wrong = 0;

    public static void main(String[] args) {
        for (int i = 0; i < ROWS && wrong == 0; i++) {
            compare(draw(3), 1 + draw(11));
        }
        Check.test(ROWS + " rows are broken as by the model");
        Check.due("answers that differ", wrong, 0);
        Check.end();
    }

    private static int draw(int below) {
        seed = seed * 6364136223846793005L + 1442695040888963407L;
        return (int) ((seed >>> 33) % below);
    }

    /** Manner 0 has RELATING ones alone, without GAPS; 1 some others; 2 all, and SPACES. */
    private static int classIn(int manner) {
        int[] often = {0, 0, 0, 1, 1, 2, 2, 4, 5};
        return manner == 0 || manner == 1 && draw(4) > 0 ? 2 : often[draw(often.length)];
    }

    private static void compare(int manner, int parts) {
        Ropewalk x = new Ropewalk();
        Model m = new Model();
        int widest = new int[] {3, 30, 300, 2000}[draw(4)];
        int row = x.row();
        m.row();
        for (int i = 0; i < parts; i++) {
            boolean isSpace = manner == 2 && draw(4) == 0;
            int itsClass = classIn(manner);
            int width = draw(widest + 1);
            x.put(row, isSpace ? x.space(width) : x.sign(itsClass, width, 0, 0));
            m.put(row, (int) (isSpace ? m.space(width) : m.sign(itsClass, width, 0, 0)));
        }
        for (int i = 0; i < 4; i++) {
            int room = 1 + draw(widest * 3);
            same("linesWith()", room, x.linesWith(row, room), m.linesWith(row, room));
            int lines = x.breakRow(row, room);
            same("breakRow()", room, lines, m.breakRow(row, room));
            for (int line = 0; line < lines && wrong == 0; line++) {
                same("parts of a LINE", room, x.line(line, 0), m.line(line, 0));
                same("WIDTH of a LINE", room, x.line(line, 1), m.line(line, 1));
            }
            same("cost()", room, x.cost(), m.cost());
        }
        int lines = 1 + draw(5);
        same("roomFor()", lines, x.roomFor(row, lines), m.roomFor(row, lines));
    }

    private static void same(String what, int with, long got, long due) {
        if (got != due) {
            wrong++;
            System.out.println(what + " of " + with + " answered " + got + ", due is " + due);
        }
    }
}
