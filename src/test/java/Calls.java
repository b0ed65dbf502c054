/** A call of the face by its name, its arguments and its answer as numbers; a truth value is 0 or 1. */
final class Calls {
    private Calls() {
    }

    static long on(Ropewalk x, String call, int... w) {
        switch (call) {
            case "sign": return x.sign(w[0], w[1], w[2], w[3]);
            case "space": return x.space(w[0]);
            case "row": return x.row();
            case "put": return x.put(w[0], w[1]);
            case "fraction": return x.fraction(w[0], w[1]);
            case "root": return x.root(w[0], w[1]);
            case "scripts": return x.scripts(w[0], w[1], w[2]);
            case "fence": return x.fence(w[0], w[1] == 1, w[2] == 1);
            case "matrix": return x.matrix(w[0], w[1]);
            case "fit": return x.fit(w[0], w[1], w[2]);
            case "bar": return x.bar(w[0]);
            case "resize": return x.resize(w[0], w[1], w[2], w[3]);
            case "parts": return x.parts();
            case "ofPart": return x.ofPart(w[0], w[1]);
            default: return ask(x, call, w);
        }
    }

    private static long ask(Ropewalk x, String call, int... w) {
        switch (call) {
            case "size": return x.size(w[0], w[1], w[2]);
            case "top": return x.top(w[0], w[1]);
            case "place": return x.place(w[0], w[1]);
            case "at": return x.at(w[0], w[1]);
            case "classAt": return x.classAt(w[0], w[1]);
            case "gap": return x.gap(w[0], w[1]);
            case "breakRow": return x.breakRow(w[0], w[1]);
            case "line": return x.line(w[0], w[1]);
            case "cost": return x.cost();
            case "linesWith": return x.linesWith(w[0], w[1]);
            case "roomFor": return x.roomFor(w[0], w[1]);
            case "widthWith": return x.widthWith(w[0], w[1]);
            case "density": return Double.doubleToLongBits(x.density());
            case "digest": return x.digest();
            default: throw new AssertionError(call);
        }
    }

    static String told(String call, int... w) {
        StringBuilder text = new StringBuilder(call).append('(');
        for (int i = 0; i < w.length; i++) {
            text.append(i == 0 ? "" : ", ").append(w[i]);
        }
        return text.append(')').toString();
    }
}
