import java.util.ArrayList;
import java.util.List;

/**
 * The document once more, written otherwise: sizes by recursion whenever they are asked for, and
 * all ways to break a ROW tried one by one. Big and slow, so that it can be compared by reading.
 */
final class Model {
    static final class Node {
        int kind;
        int itsClass;
        int[] own = {0, 0, 0};
        int owner = -1;
        boolean left;
        boolean right;
        int rows;
        int columns;
        List<Integer> in = new ArrayList<>();
    }

    record Box(long wide, long high, long deep) {
    }

    record Spot(int part, int style, long x, long y, int level) {
    }

    final List<Node> nodes = new ArrayList<>();
    int top = -1;
    int topStyle = 0;
    List<int[]> kept = new ArrayList<>();
    long keptCost = 0;

    private static void argument(boolean isWrong) {
        if (isWrong) {
            throw new IllegalArgumentException();
        }
    }

    private static void state(boolean isWrong) {
        if (isWrong) {
            throw new IllegalStateException();
        }
    }

    private void exists(int part) {
        if (part < 0 || part >= nodes.size()) {
            throw new IndexOutOfBoundsException();
        }
    }

    private void existsOrNone(int part) {
        if (part != -1) {
            exists(part);
        }
    }

    private static boolean outside(int n, int low, int high) {
        return n < low || n > high;
    }

    private boolean isUsed(int part) {
        return part != -1 && (nodes.get(part).owner != -1 || part == top);
    }

    private boolean isFull() {
        return nodes.size() == 60;
    }

    private int add(int kind, Integer... in) {
        Node n = new Node();
        n.kind = kind;
        for (int each : in) {
            n.in.add(each);
            if (each != -1) {
                nodes.get(each).owner = nodes.size();
            }
        }
        nodes.add(n);
        return nodes.size() - 1;
    }

    private Node last() {
        return nodes.get(nodes.size() - 1);
    }

    long sign(int c, int w, int h, int d) {
        argument(outside(c, 0, 5) || outside(w, 0, 2000) || outside(h, 0, 2000) || outside(d, 0, 2000));
        state(isFull());
        int number = add(0);
        last().itsClass = c;
        last().own = new int[] {w, h, d};
        return number;
    }

    long space(int w) {
        argument(outside(w, 0, 2000));
        state(isFull());
        int number = add(1);
        last().own[0] = w;
        return number;
    }

    long row() {
        state(isFull());
        return add(2);
    }

    private boolean holds(int outer, int part) {
        boolean found = outer == part;
        for (int each : nodes.get(outer).in) {
            found = found || each != -1 && holds(each, part);
        }
        return found;
    }

    long put(int row, int part) {
        exists(row);
        exists(part);
        Node its = nodes.get(row);
        argument(its.kind != 2);
        state(its.in.size() == 16 || isUsed(part) || holds(part, row));
        its.in.add(part);
        nodes.get(part).owner = row;
        return its.in.size();
    }

    long fraction(int a, int b) {
        exists(a);
        exists(b);
        state(isFull() || isUsed(a) || isUsed(b) || a == b);
        return add(3, a, b);
    }

    long root(int a, int b) {
        exists(a);
        existsOrNone(b);
        state(isFull() || isUsed(a) || isUsed(b) || a == b);
        return add(4, a, b);
    }

    long scripts(int a, int b, int c) {
        exists(a);
        existsOrNone(b);
        existsOrNone(c);
        argument(b == -1 && c == -1);
        state(isFull() || isUsed(a) || isUsed(b) || isUsed(c) || a == b || a == c || b == c);
        return add(5, a, b, c);
    }

    long fence(int a, boolean left, boolean right) {
        exists(a);
        argument(!left && !right);
        state(isFull() || isUsed(a));
        int number = add(6, a);
        last().left = left;
        last().right = right;
        return number;
    }

    long matrix(int rows, int columns) {
        argument(outside(rows, 1, 4) || outside(columns, 1, 4));
        state(isFull());
        Integer[] places = new Integer[rows * columns];
        java.util.Arrays.fill(places, -1);
        int number = add(7, places);
        last().rows = rows;
        last().columns = columns;
        return number;
    }

    long fit(int matrix, int place, int part) {
        exists(matrix);
        exists(part);
        Node its = nodes.get(matrix);
        argument(its.kind != 7 || outside(place, 0, its.in.size() - 1));
        state(its.in.get(place) != -1 || isUsed(part) || holds(part, matrix));
        its.in.set(place, part);
        nodes.get(part).owner = matrix;
        return count(its);
    }

    long bar(int a) {
        exists(a);
        state(isFull() || isUsed(a));
        return add(8, a);
    }

    long resize(int part, int w, int h, int d) {
        exists(part);
        Node its = nodes.get(part);
        argument(its.kind != 0 || outside(w, 0, 2000) || outside(h, 0, 2000) || outside(d, 0, 2000));
        long before = its.own[0];
        its.own = new int[] {w, h, d};
        return before;
    }

    long parts() {
        return nodes.size();
    }

    private static int count(Node n) {
        int many = 0;
        for (int each : n.in) {
            many += each == -1 ? 0 : 1;
        }
        return many;
    }

    long ofPart(int part, int what) {
        exists(part);
        argument(outside(what, 0, 2));
        Node its = nodes.get(part);
        return what == 0 ? its.kind : what == 1 ? its.owner : count(its);
    }

    private static long star(long n, int style) {
        return n * new int[] {100, 100, 70, 50}[style] / 100;
    }

    private static int styleOf(Node outer, int slot, int style) {
        switch (outer.kind) {
            case 3:
                return Math.min(style + 1, 3);
            case 4:
                return slot == 1 ? 3 : style;
            case 5:
                return slot == 0 ? style : style < 2 ? 2 : 3;
            case 7:
                return Math.max(style, 1);
            default:
                return style;
        }
    }

    private int classIn(List<Integer> in, int place) {
        Node n = nodes.get(in.get(place));
        if (n.kind != 0) {
            return 0;
        }
        if (n.itsClass != 1) {
            return n.itsClass;
        }
        int ahead = place - 1;
        while (ahead >= 0 && nodes.get(in.get(ahead)).kind == 1) {
            ahead--;
        }
        int behind = place + 1;
        while (behind < in.size() && nodes.get(in.get(behind)).kind == 1) {
            behind++;
        }
        if (ahead < 0 || behind == in.size()) {
            return 0;
        }
        int a = classIn(in, ahead);
        int b = nodes.get(in.get(behind)).kind == 0 ? nodes.get(in.get(behind)).itsClass : 0;
        return a == 1 || a == 2 || a == 3 || a == 5 || b == 2 || b == 4 || b == 5 ? 0 : 1;
    }

    private int gapIn(List<Integer> in, int place, int style) {
        if (place + 1 >= in.size() || style >= 2) {
            return 0;
        }
        if (nodes.get(in.get(place)).kind == 1 || nodes.get(in.get(place + 1)).kind == 1) {
            return 0;
        }
        int a = classIn(in, place);
        int b = classIn(in, place + 1);
        if (a == 2 && b == 2) {
            return 0;
        }
        return a == 2 || b == 2 ? 278 : a == 1 || b == 1 ? 222 : a == 5 ? 167 : 0;
    }

    private Box box(int part, int style) {
        return laid(part, style, 0, 0, 0, null);
    }

    private Box boxIn(Node outer, int slot, int style) {
        int part = outer.in.get(slot);
        return part == -1 ? new Box(0, 0, 0) : box(part, styleOf(outer, slot, style));
    }

    private void lay(Node outer, int slot, int style, long x, long y, int level, List<Spot> spots) {
        if (spots != null && outer.in.get(slot) != -1) {
            laid(outer.in.get(slot), styleOf(outer, slot, style), x, y, level + 1, spots);
        }
    }

    /** The sizes of a PART that lies at x and y; it and all in it are added to the spots, if these are asked for. */
    private Box laid(int part, int style, long x, long y, int level, List<Spot> spots) {
        Node n = nodes.get(part);
        if (spots != null) {
            spots.add(new Spot(part, style, x, y, level));
        }
        switch (n.kind) {
            case 0:
            case 1:
                return new Box(star(n.own[0], style), star(n.own[1], style), star(n.own[2], style));
            case 2:
                return rowBox(n, style, x, y, level, spots);
            case 3:
                return fractionBox(n, style, x, y, level, spots);
            case 4:
                return rootBox(n, style, x, y, level, spots);
            case 5:
                return scriptsBox(n, style, x, y, level, spots);
            case 6:
                return fenceBox(n, style, x, y, level, spots);
            case 7:
                return matrixBox(n, style, x, y, level, spots);
            default:
                Box a = boxIn(n, 0, style);
                lay(n, 0, style, x, y, level, spots);
                return new Box(a.wide, a.high + star(120, style), a.deep);
        }
    }

    private Box rowBox(Node n, int style, long x, long y, int level, List<Spot> spots) {
        long wide = 0;
        long high = 0;
        long deep = 0;
        for (int i = 0; i < n.in.size(); i++) {
            Box b = boxIn(n, i, style);
            lay(n, i, style, x + wide, y, level, spots);
            wide += b.wide + gapIn(n.in, i, style);
            high = b.high > high ? b.high : high;
            deep = b.deep > deep ? b.deep : deep;
        }
        return new Box(wide, high, deep);
    }

    private Box fractionBox(Node n, int style, long x, long y, int level, List<Spot> spots) {
        Box a = boxIn(n, 0, style);
        Box b = boxIn(n, 1, style);
        long g = style == 0 ? 120 : star(60, style);
        long wide = Math.max(a.wide, b.wide) + star(240, style);
        long aUp = star(250, style) + star(20, style) + g + a.deep;
        long bDown = star(20, style) + g + b.high - star(250, style);
        lay(n, 0, style, x + (wide - a.wide) / 2, y + aUp, level, spots);
        lay(n, 1, style, x + (wide - b.wide) / 2, y - bDown, level, spots);
        long deep = bDown + b.deep;
        return new Box(wide, aUp + a.high, deep < 0 ? 0 : deep);
    }

    private Box rootBox(Node n, int style, long x, long y, int level, List<Spot> spots) {
        Box a = boxIn(n, 0, style);
        long high = a.high + star(120, style);
        if (n.in.get(1) == -1) {
            lay(n, 0, style, x + star(500, style), y, level, spots);
            return new Box(star(500, style) + a.wide, high, a.deep);
        }
        Box b = boxIn(n, 1, style);
        long e = b.wide > star(300, style) ? b.wide - star(300, style) : 0;
        long begin = b.wide < star(300, style) ? star(300, style) - b.wide : 0;
        long up = (high + a.deep) * 60 / 100 - a.deep;
        lay(n, 0, style, x + e + star(500, style), y, level, spots);
        lay(n, 1, style, x + begin, y + up, level, spots);
        return new Box(e + star(500, style) + a.wide, Math.max(high, up + b.high), a.deep);
    }

    private Box scriptsBox(Node n, int style, long x, long y, int level, List<Spot> spots) {
        boolean hasB = n.in.get(1) != -1;
        boolean hasC = n.in.get(2) != -1;
        Box a = boxIn(n, 0, style);
        Box b = boxIn(n, 1, style);
        Box c = boxIn(n, 2, style);
        long u = Math.max(star(400, style), a.high - star(200, style));
        long v = Math.max(star(150, style), a.deep + star(100, style));
        if (hasB && hasC) {
            long between = (u - b.deep) - (c.high - v);
            u += between < star(160, style) ? star(160, style) - between : 0;
        }
        lay(n, 0, style, x, y, level, spots);
        lay(n, 1, style, x + a.wide, y + u, level, spots);
        lay(n, 2, style, x + a.wide, y - v, level, spots);
        long high = a.high;
        long deep = a.deep;
        if (hasB) {
            high = Math.max(high, u + b.high);
            deep = Math.max(deep, b.deep - u);
        }
        if (hasC) {
            high = Math.max(high, c.high - v);
            deep = Math.max(deep, v + c.deep);
        }
        return new Box(a.wide + Math.max(b.wide, c.wide) + star(50, style), high, deep);
    }

    private Box fenceBox(Node n, int style, long x, long y, int level, List<Spot> spots) {
        Box a = boxIn(n, 0, style);
        long r = Math.max(a.high - star(250, style), a.deep + star(250, style));
        long k = 1;
        while (k * star(300, style) < r) {
            k++;
        }
        long left = n.left ? star(400, style) : 0;
        long right = n.right ? star(400, style) : 0;
        lay(n, 0, style, x + left, y, level, spots);
        return new Box(left + a.wide + right,
                Math.max(a.high, star(250, style) + k * star(300, style)),
                Math.max(a.deep, k * star(300, style) - star(250, style)));
    }

    private Box matrixBox(Node n, int style, long x, long y, int level, List<Spot> spots) {
        long[] wides = new long[n.columns];
        long[] highs = new long[n.rows];
        long[] deeps = new long[n.rows];
        for (int i = 0; i < n.in.size(); i++) {
            Box b = boxIn(n, i, style);
            wides[i % n.columns] = Math.max(wides[i % n.columns], b.wide);
            highs[i / n.columns] = Math.max(highs[i / n.columns], b.high);
            deeps[i / n.columns] = Math.max(deeps[i / n.columns], b.deep);
        }
        long wide = (n.columns - 1) * star(600, style);
        for (long each : wides) {
            wide += each;
        }
        long t = (n.rows - 1) * star(300, style);
        for (int i = 0; i < n.rows; i++) {
            t += highs[i] + deeps[i];
        }
        long high = t / 2 + star(250, style);
        long line = high - highs[0];
        for (int i = 0; i < n.rows; i++) {
            line -= i == 0 ? 0 : deeps[i - 1] + star(300, style) + highs[i];
            long begin = 0;
            for (int j = 0; j < n.columns; j++) {
                int slot = i * n.columns + j;
                lay(n, slot, style, x + begin + (wides[j] - boxIn(n, slot, style).wide) / 2, y + line, level, spots);
                begin += wides[j] + star(600, style);
            }
        }
        return new Box(wide, high, t - high < 0 ? 0 : t - high);
    }

    private static long ofBox(Box b, int what) {
        return what == 0 ? b.wide : what == 1 ? b.high : b.deep;
    }

    long size(int part, int style, int what) {
        exists(part);
        argument(outside(style, 0, 3) || outside(what, 0, 2));
        return ofBox(box(part, style), what);
    }

    private List<Spot> spots() {
        List<Spot> all = new ArrayList<>();
        if (top != -1) {
            laid(top, topStyle, 0, 0, 0, all);
        }
        return all;
    }

    long top(int part, int style) {
        exists(part);
        argument(outside(style, 0, 3));
        state(nodes.get(part).owner != -1);
        top = part;
        topStyle = style;
        return spots().size();
    }

    private static long ofSpot(Spot s, int what) {
        return what == 0 ? s.style : what == 1 ? s.x : s.y;
    }

    long place(int part, int what) {
        exists(part);
        argument(outside(what, 0, 5));
        for (Spot s : spots()) {
            if (s.part == part) {
                return what < 3 ? ofSpot(s, what) : ofBox(box(part, s.style), what - 3);
            }
        }
        throw new IllegalStateException();
    }

    long at(int x, int y) {
        Spot best = null;
        for (Spot s : spots()) {
            Box b = box(s.part, s.style);
            boolean isAt = s.x <= x && x < s.x + b.wide && s.y - b.deep <= y && y < s.y + b.high;
            if (isAt && (best == null || s.level > best.level || s.level == best.level && s.part < best.part)) {
                best = s;
            }
        }
        return best == null ? -1 : best.part;
    }

    private void isPlaceInRow(int row, int place) {
        exists(row);
        argument(nodes.get(row).kind != 2 || outside(place, 0, nodes.get(row).in.size() - 1));
    }

    long classAt(int row, int place) {
        isPlaceInRow(row, place);
        return classIn(nodes.get(row).in, place);
    }

    long gap(int row, int place) {
        isPlaceInRow(row, place);
        return gapIn(nodes.get(row).in, place, 1);
    }

    /** Of all ways, each a set of places to break behind. */
    private List<int[]> bestWay(int row, int room, long[] cost) {
        List<Integer> in = nodes.get(row).in;
        long[] wide = new long[in.size()];
        int[] classes = new int[in.size()];
        int[] gaps = new int[in.size()];
        List<Integer> places = new ArrayList<>();
        for (int i = 0; i < wide.length; i++) {
            wide[i] = box(in.get(i), 1).wide;
            classes[i] = classIn(in, i);
            gaps[i] = gapIn(in, i, 1);
            if (i < wide.length - 1 && (classes[i] == 1 || classes[i] == 2 || classes[i] == 5)) {
                places.add(i);
            }
        }
        List<int[]> best = null;
        for (int ways = 0; in.size() > 0 && ways < 1 << places.size(); ways++) {
            List<int[]> way = new ArrayList<>();
            long sum = 0;
            long width = 0;
            int parts = 0;
            for (int i = 0; i < wide.length; i++) {
                width += wide[i];
                parts++;
                int at = places.indexOf(i);
                boolean isLast = i == wide.length - 1;
                if (isLast || at != -1 && (ways >> at & 1) == 1) {
                    way.add(new int[] {parts, (int) width});
                    sum += width > room ? 1000000 + 1000 * (width - room)
                            : isLast ? 0 : (room - width) * (room - width) / 1000;
                    sum += isLast || classes[i] == 2 ? 0 : classes[i] == 1 ? 200 : 500;
                    width = 0;
                    parts = 0;
                } else {
                    width += gaps[i];
                }
            }
            if (best == null || isBetter(way, sum, best, cost[0])) {
                best = way;
                cost[0] = sum;
            }
        }
        return best == null ? new ArrayList<>() : best;
    }

    private static boolean isBetter(List<int[]> way, long sum, List<int[]> best, long cost) {
        if (sum != cost) {
            return sum < cost;
        }
        if (way.size() != best.size()) {
            return way.size() < best.size();
        }
        for (int i = 0; i < way.size(); i++) {
            if (way.get(i)[0] != best.get(i)[0]) {
                return way.get(i)[0] > best.get(i)[0];
            }
        }
        return false;
    }

    private void isRowAndRoom(int row, int room) {
        exists(row);
        argument(nodes.get(row).kind != 2 || outside(room, 1, 100000));
    }

    long breakRow(int row, int room) {
        isRowAndRoom(row, room);
        long[] cost = {0};
        kept = bestWay(row, room, cost);
        keptCost = cost[0];
        return kept.size();
    }

    long line(int line, int what) {
        if (outside(line, 0, kept.size() - 1)) {
            throw new IndexOutOfBoundsException();
        }
        argument(outside(what, 0, 1));
        return kept.get(line)[what];
    }

    long cost() {
        return keptCost;
    }

    long linesWith(int row, int room) {
        isRowAndRoom(row, room);
        return bestWay(row, room, new long[1]).size();
    }

    long roomFor(int row, int lines) {
        exists(row);
        argument(nodes.get(row).kind != 2 || outside(lines, 1, 16));
        int low = 1;
        int high = 100000;
        while (low < high) {
            int m = (low + high) / 2;
            List<int[]> way = bestWay(row, m, new long[1]);
            boolean isTooSmall = way.size() > lines;
            for (int[] each : way) {
                isTooSmall = isTooSmall || each[1] > m;
            }
            if (isTooSmall) {
                low = m + 1;
            } else {
                high = m;
            }
        }
        return low;
    }

    long widthWith(int part, int width) {
        exists(part);
        argument(nodes.get(part).kind != 0 || outside(width, 0, 2000));
        state(top == -1);
        int before = nodes.get(part).own[0];
        nodes.get(part).own[0] = width;
        long answer = box(top, topStyle).wide;
        nodes.get(part).own[0] = before;
        return answer;
    }

    double density() {
        double sum = 0;
        for (Spot s : spots()) {
            sum += nodes.get(s.part).kind == 0 ? box(s.part, s.style).wide : 0;
        }
        return top == -1 || box(top, topStyle).wide == 0 ? 0 : sum / box(top, topStyle).wide;
    }

    private long added(long d, long... numbers) {
        long sum = d;
        for (long x : numbers) {
            sum = sum * 31 + x;
        }
        return sum;
    }

    long digest() {
        long d = added(58074, parts());
        List<Spot> spots = spots();
        for (int part = 0; part < nodes.size(); part++) {
            Box shown = box(part, 0);
            Box small = box(part, 2);
            d = added(d, ofPart(part, 0), ofPart(part, 1), ofPart(part, 2));
            d = added(d, shown.wide, shown.high, shown.deep, small.wide, small.high, small.deep);
            for (Spot s : spots) {
                if (s.part == part) {
                    Box its = box(part, s.style);
                    d = added(d, s.style, s.x, s.y, its.wide, its.high, its.deep);
                }
            }
        }
        for (int row = 0; row < nodes.size(); row++) {
            for (int place = 0; nodes.get(row).kind == 2 && place < nodes.get(row).in.size(); place++) {
                d = added(d, classAt(row, place), gap(row, place));
            }
            d = nodes.get(row).kind == 2 ? added(d, linesWith(row, 3000), roomFor(row, 2)) : d;
        }
        d = added(d, kept.size());
        for (int[] each : kept) {
            d = added(d, each[0], each[1]);
        }
        return added(d, keptCost);
    }
}
