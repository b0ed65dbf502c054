/** Runs of calls, drawn by a fixed rule, answered by the program as by the model of the document. */
final class RandomRunsTest {
    private static final int RUNS = 400;
    private static final int CALLS = 512;
    private static final long REFUSED = Long.MIN_VALUE;

    private static long seed;
    private static int wrong = 0;
    private static final String[] CALLS_OF_FACE = {"sign", "space", "row", "put", "fraction", "root", "scripts",
        "fence", "matrix", "fit", "bar", "resize", "parts", "ofPart", "size", "top", "place", "at", "classAt",
        "gap", "breakRow", "line", "cost", "linesWith", "roomFor", "widthWith", "density", "digest"};
    private static final int KINDS = CALLS_OF_FACE.length;
    private static final long[] answered = new long[KINDS];
    private static final long[] refused = new long[KINDS];

    public static void main(String[] args) {
        for (int run = 0; run < RUNS && wrong == 0; run++) {
            seed = run * 7919L + 1;
            runOnce(run);
        }
        for (int kind = 0; kind < answered.length; kind++) {
            if (answered[kind] < 20) {
                wrong++;
                System.out.println(CALLS_OF_FACE[kind] + " was answered just " + answered[kind] + " times");
            }
        }
        Check.test(RUNS + " runs of " + CALLS + " calls agree with the model");
        Check.due("answers that do not", wrong, 0);
        Check.end();
    }

    private static int draw(int below) {
        seed = seed * 6364136223846793005L + 1442695040888963407L;
        return (int) ((seed >>> 33) % below);
    }

    private static void runOnce(int run) {
        Ropewalk x = new Ropewalk();
        Model m = new Model();
        for (int call = 0; call < CALLS && wrong == 0; call++) {
            int kind = kindOfCall(call);
            int[] with = arguments(kind, m);
            if (with.length > 0 && draw(80) == 0) {
                with[draw(with.length)] = draw(2) == 0 ? Integer.MAX_VALUE : Integer.MIN_VALUE;
            }
            long got = REFUSED;
            String thrown = "";
            try {
                got = Calls.on(x, CALLS_OF_FACE[kind], with);
            } catch (RuntimeException e) {
                thrown = e.getClass().getName();
            }
            long want = REFUSED;
            String due = "";
            try {
                want = byModel(m, kind, with);
            } catch (RuntimeException e) {
                due = e.getClass().getName();
            }
            (due.isEmpty() ? answered : refused)[kind]++;
            if (got != want || !thrown.equals(due)) {
                wrong++;
                System.out.println("run " + run + ", call " + call + ", " + Calls.told(CALLS_OF_FACE[kind], with)
                        + ": " + got + thrown + ", due is " + want + due);
            }
        }
    }

    /** More of what adds at first, more of what asks later. */
    private static int kindOfCall(int call) {
        return call < 120 && draw(5) > 0 ? draw(12) : draw(KINDS);
    }

    private static int number(int below) {
        return draw(40) == 0 ? draw(2) == 0 ? -1 : below : draw(Math.max(below, 1));
    }

    private static int measure() {
        int how = draw(12);
        return how == 0 ? draw(2) == 0 ? -1 : 2001 : how == 1 ? 0 : how == 2 ? 2000 : draw(how < 9 ? 800 : 2001);
    }

    private static int rowIn(Model m) {
        return draw(30) == 0 ? number(m.nodes.size()) : partOfKind(m, 2);
    }

    private static int partOfKind(Model m, int kind) {
        int from = draw(Math.max(1, m.nodes.size()));
        for (int i = 0; i < m.nodes.size(); i++) {
            int part = (from + i) % m.nodes.size();
            if (m.nodes.get(part).kind == kind) {
                return part;
            }
        }
        return number(m.nodes.size());
    }

    private static int free(Model m) {
        int from = draw(Math.max(1, m.nodes.size()));
        for (int i = 0; i < m.nodes.size() && draw(30) != 0; i++) {
            int part = (from + i) % m.nodes.size();
            if (m.nodes.get(part).owner == -1 && part != m.top) {
                return part;
            }
        }
        return number(m.nodes.size());
    }

    private static int freeOrNone(Model m) {
        return draw(3) == 0 ? -1 : draw(60) == 0 ? -2 : free(m);
    }

    private static int room() {
        int how = draw(10);
        return how == 0 ? draw(2) * 100001 : how == 1 ? 100000 : 1 + draw(how < 8 ? 4000 : 20000);
    }

    private static int coordinate() {
        return draw(20) == 0 ? draw(2) == 0 ? Integer.MAX_VALUE : Integer.MIN_VALUE : draw(5000) - 1000;
    }

    private static int[] arguments(int kind, Model m) {
        int n = m.nodes.size();
        switch (kind) {
            case 0:
                return new int[] {draw(40) == 0 ? draw(2) * 7 - 1 : draw(6), measure(), measure(), measure()};
            case 1:
                return new int[] {measure()};
            case 3:
                return new int[] {rowIn(m), free(m)};
            case 4:
                return new int[] {free(m), free(m)};
            case 5:
                return new int[] {free(m), freeOrNone(m)};
            case 6:
                return new int[] {free(m), freeOrNone(m), freeOrNone(m)};
            case 7:
                return new int[] {free(m), draw(4) > 0 ? 1 : 0, draw(4) > 0 ? 1 : 0};
            case 8:
                return new int[] {draw(6), draw(6)};
            case 9:
                return new int[] {draw(30) == 0 ? number(n) : partOfKind(m, 7), draw(18) - 1, free(m)};
            case 10:
                return new int[] {free(m)};
            case 11:
                return new int[] {draw(30) == 0 ? number(n) : partOfKind(m, 0), measure(), measure(), measure()};
            case 13:
                return new int[] {number(n), draw(5) - draw(2)};
            case 14:
                return new int[] {number(n), draw(5) - draw(2), draw(4) - draw(2)};
            case 15:
                return new int[] {draw(3) == 0 ? number(n) : free(m), draw(5) - draw(2)};
            case 16:
                return new int[] {number(n), draw(7) - draw(2)};
            case 17:
                return new int[] {coordinate(), coordinate()};
            case 18:
            case 19:
                return new int[] {rowIn(m), draw(8) - draw(2)};
            case 20:
            case 23:
                return new int[] {rowIn(m), room()};
            case 21:
                return new int[] {draw(6) - draw(2), draw(3) - draw(2)};
            case 24:
                return new int[] {rowIn(m), draw(4) > 0 ? draw(4) + 1 : draw(18)};
            case 25:
                return new int[] {draw(30) == 0 ? number(n) : partOfKind(m, 0), measure()};
            default:
                return new int[0];
        }
    }

    private static long byModel(Model m, int kind, int[] w) {
        switch (kind) {
            case 0: return m.sign(w[0], w[1], w[2], w[3]);
            case 1: return m.space(w[0]);
            case 2: return m.row();
            case 3: return m.put(w[0], w[1]);
            case 4: return m.fraction(w[0], w[1]);
            case 5: return m.root(w[0], w[1]);
            case 6: return m.scripts(w[0], w[1], w[2]);
            case 7: return m.fence(w[0], w[1] == 1, w[2] == 1);
            case 8: return m.matrix(w[0], w[1]);
            case 9: return m.fit(w[0], w[1], w[2]);
            case 10: return m.bar(w[0]);
            case 11: return m.resize(w[0], w[1], w[2], w[3]);
            case 12: return m.parts();
            case 13: return m.ofPart(w[0], w[1]);
            case 14: return m.size(w[0], w[1], w[2]);
            case 15: return m.top(w[0], w[1]);
            case 16: return m.place(w[0], w[1]);
            case 17: return m.at(w[0], w[1]);
            case 18: return m.classAt(w[0], w[1]);
            case 19: return m.gap(w[0], w[1]);
            case 20: return m.breakRow(w[0], w[1]);
            case 21: return m.line(w[0], w[1]);
            case 22: return m.cost();
            case 23: return m.linesWith(w[0], w[1]);
            case 24: return m.roomFor(w[0], w[1]);
            case 25: return m.widthWith(w[0], w[1]);
            case 26: return Double.doubleToLongBits(m.density());
            default: return m.digest();
        }
    }
}
