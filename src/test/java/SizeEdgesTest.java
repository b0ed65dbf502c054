/** Terms 2, sentence by sentence: what is just at an edge, one below it and one beyond. */
final class SizeEdgesTest {
    public static void main(String[] args) {
        percents();
        row();
        fractionAcross();
        fractionDown();
        fractionStyles();
        rootAcross();
        rootUp();
        scriptsUp();
        scriptsBetween();
        scriptsSizes();
        scriptsStyles();
        fence();
        matrixDown();
        matrixAcross();
        matrixPlaces();
        bar();
        Check.end();
    }

    private static void percents() {
        Check.test("n* is n * the percents / 100, cut towards 0");
        Ropewalk x = new Ropewalk();
        x.sign(0, 0, 1, 2);
        x.sign(0, 3, 99, 1999);
        x.sign(0, 2000, 10, 101);
        x.space(1);
        for (int style = 0; style <= 1; style++) {
            Check.sizes(x, 0, style, 0, 1, 2);
            Check.sizes(x, 1, style, 3, 99, 1999);
            Check.sizes(x, 2, style, 2000, 10, 101);
            Check.sizes(x, 3, style, 1, 0, 0);
        }
        Check.sizes(x, 0, 2, 0, 0, 1);
        Check.sizes(x, 1, 2, 2, 69, 1399);
        Check.sizes(x, 2, 2, 1400, 7, 70);
        Check.sizes(x, 3, 2, 0, 0, 0);
        Check.sizes(x, 0, 3, 0, 0, 1);
        Check.sizes(x, 1, 3, 1, 49, 999);
        Check.sizes(x, 2, 3, 1000, 5, 50);
        Check.sizes(x, 3, 3, 0, 0, 0);
        Check.test("each n by itself");
        Ropewalk y = new Ropewalk();
        int row = Check.rowOf(y, 0, 1, 0, 1, 0, 3, 0, 3);
        Check.due("four cut WIDTHS in STYLE 3", y.size(row, 3, 0), 2);
        Check.due("four cut WIDTHS in STYLE 2", y.size(row, 2, 0), 4);
        int scripts = y.scripts(y.sign(0, 1, 1, 1), y.sign(0, 1, 1, 1), -1);
        Check.sizes(y, scripts, 3, 25, 200, 0);
    }

    private static void row() {
        Check.test("ROW: HEIGHT and DEPTH are the greatest, wherever these are");
        for (int place = 0; place <= 2; place++) {
            Ropewalk x = new Ropewalk();
            int row = x.row();
            for (int i = 0; i <= 2; i++) {
                x.put(row, x.sign(0, 10, i == place ? 2000 : 1999, i == 2 - place ? 7 : 6));
            }
            Check.sizes(x, row, 1, 30, 2000, 7);
        }
        Check.test("ROW: they lie on its line, one behind the other, with the GAPS");
        Ropewalk x = new Ropewalk();
        int row = Check.rowOf(x, 5, 10, 0, 0, 2, 20, 2, 0, 0, 30);
        int[][] begins = {{0, 177, 177 + 278, 475, 475 + 278}, {0, 177, 455, 475, 753}, {0, 7, 7, 21, 21}, {0, 5, 5, 15, 15}};
        for (int style = 0; style <= 3; style++) {
            x.top(row, style);
            for (int i = 0; i < 5; i++) {
                Check.lies(x, row + 1 + i, style, begins[style][i], 0);
            }
        }
        Check.sizes(x, row, 1, 783, 0, 0);
        Check.sizes(x, row, 2, 42, 0, 0);
    }

    private static Ropewalk fraction(int aWide, int aHigh, int aDeep, int bWide, int bHigh, int bDeep) {
        Ropewalk x = new Ropewalk();
        x.fraction(x.sign(0, aWide, aHigh, aDeep), x.sign(0, bWide, bHigh, bDeep));
        return x;
    }

    private static void fractionAcross() {
        Check.test("FRACTION: WIDTH is the greater one of theirs + 240*");
        int[][] widths = {{100, 100, 340}, {101, 100, 341}, {100, 101, 341}, {0, 0, 240}, {2000, 0, 2240}, {0, 2000, 2240}};
        for (int[] each : widths) {
            Check.sizes(fraction(each[0], 0, 0, each[1], 0, 0), 2, 0, each[2], 390, 0);
        }
        Check.test("FRACTION: each begins at (the WIDTH - its own) / 2, cut");
        int[][] begins = {{100, 100, 120, 120}, {101, 100, 120, 120}, {102, 100, 120, 121}, {100, 101, 120, 120},
            {100, 103, 121, 120}, {2000, 0, 120, 1120}, {0, 1999, 1119, 120}};
        for (int[] each : begins) {
            Ropewalk x = fraction(each[0], 0, 0, each[1], 0, 0);
            x.top(2, 0);
            Check.lies(x, 0, 1, each[2], 390);
            Check.lies(x, 1, 1, each[3], 110);
        }
    }

    private static void fractionDown() {
        Check.test("FRACTION: b is above the line, if that is less than 0");
        int[][] heights = {{0, 110}, {109, 1}, {110, 0}, {111, -1}, {2000, -1890}};
        for (int[] each : heights) {
            Ropewalk x = fraction(0, 0, 0, 0, each[0], 0);
            x.top(2, 0);
            Check.lies(x, 1, 1, 120, each[1]);
            Check.due("DEPTH", x.size(2, 0, 2), Math.max(0, -each[1]));
        }
        Check.test("FRACTION: DEPTH is not below 0");
        int[] depths = {0, 109, 110, 111, 2000};
        int[] deep = {0, 0, 0, 1, 1890};
        for (int i = 0; i < depths.length; i++) {
            Check.sizes(fraction(0, 0, 0, 0, 0, depths[i]), 2, 0, 240, 390, deep[i]);
        }
        Check.sizes(fraction(0, 0, 0, 0, 50, 60), 2, 0, 240, 390, 0);
        Check.sizes(fraction(0, 0, 0, 0, 50, 61), 2, 0, 240, 390, 1);
        Check.test("FRACTION: a lies 250* + 20* + g + its DEPTH above the line");
        Ropewalk x = fraction(0, 1, 1, 0, 0, 0);
        int[] begins = {120, 120, 84, 60};
        int[] ys = {391, 330, 175 + 14 + 42, 125 + 10 + 30};
        int[] highs = {392, 330, 231, 165};
        for (int style = 0; style <= 3; style++) {
            x.top(2, style);
            Check.lies(x, 0, Math.min(3, style + 1), begins[style], ys[style]);
            Check.due("HEIGHT", x.size(2, style, 1), highs[style]);
        }
    }

    private static void fractionStyles() {
        Check.test("FRACTION: a and b have the STYLE 1 (in 0), 2 (in 1), 3 (in 2 and 3)");
        Ropewalk x = new Ropewalk();
        int inner = x.fraction(x.sign(0, 100, 100, 100), x.sign(0, 200, 200, 200));
        int middle = x.fraction(x.sign(0, 0, 0, 0), inner);
        int outer = x.fraction(middle, x.space(0));
        int[][] styles = {{1, 2, 3}, {2, 3, 3}, {3, 3, 3}, {3, 3, 3}};
        for (int style = 0; style <= 3; style++) {
            x.top(outer, style);
            Check.due("STYLE of the middle one", x.place(middle, 0), styles[style][0]);
            Check.due("STYLE of the inner one", x.place(inner, 0), styles[style][1]);
            Check.due("STYLE of a in it", x.place(0, 0), styles[style][2]);
            Check.due("STYLE of b in it", x.place(1, 0), styles[style][2]);
            Check.due("STYLE of the outer b", x.place(outer - 1, 0), styles[style][0]);
        }
    }

    private static void rootAcross() {
        Check.test("ROOT: e is WIDTH of b - 300*, not below 0; b begins at 300* - its WIDTH, not below 0");
        // the index's WIDTH is half of what it is told; 300* is 300, 300, 210 and 150
        int[][] due = {{1, 598, 500, 1}, {1, 600, 500, 0}, {1, 602, 501, 0}, {1, 0, 500, 300}, {1, 2000, 1200, 0},
            {0, 598, 500, 1}, {0, 600, 500, 0}, {0, 602, 501, 0},
            {2, 418, 350, 1}, {2, 420, 350, 0}, {2, 422, 351, 0},
            {3, 298, 250, 1}, {3, 300, 250, 0}, {3, 302, 251, 0}};
        for (int[] each : due) {
            Ropewalk x = new Ropewalk();
            int root = x.root(x.sign(0, 100, 0, 0), x.sign(0, each[1], 0, 0));
            x.top(root, each[0]);
            Check.due("a begins", x.place(0, 1), each[2]);
            Check.due("b begins", x.place(1, 1), each[3]);
            Check.due("WIDTH", x.place(root, 3), each[2] + x.place(0, 3));
        }
        Check.test("ROOT: without b, e is 0");
        Ropewalk x = new Ropewalk();
        int root = x.root(x.sign(0, 0, 0, 0), -1);
        Check.sizes(x, root, 0, 500, 120, 0);
        Check.sizes(x, root, 2, 350, 84, 0);
        Check.sizes(x, root, 3, 250, 60, 0);
    }

    private static void rootUp() {
        Check.test("ROOT: b lies (h + DEPTH of a) * 60 / 100 - DEPTH of a above the line, cut");
        int[][] due = {{0, 0, 72}, {1, 0, 72}, {2, 0, 73}, {4, 0, 74}, {5, 0, 75}, {0, 1, 71}, {0, 2, 71},
            {0, 180, 0}, {0, 181, -1}, {0, 2000, -728}, {2000, 0, 1272}, {2000, 2000, 472}};
        for (int[] each : due) {
            Ropewalk x = new Ropewalk();
            int root = x.root(x.sign(0, 100, each[0], each[1]), x.sign(0, 600, 0, 0));
            x.top(root, 1);
            Check.lies(x, 1, 3, 0, each[2]);
            Check.sizes(x, root, 1, 600, each[0] + 120, each[1]);
        }
        Check.test("ROOT: HEIGHT is h, or how high b lies + its HEIGHT, if that is more");
        // a is 600 high and 100 deep, so h is 720, and b lies at 392; its HEIGHT is half of what it is told
        int[][] heights = {{654, 720}, {656, 720}, {658, 721}, {2000, 1392}, {0, 720}};
        for (int[] each : heights) {
            Ropewalk x = new Ropewalk();
            Check.sizes(x, x.root(x.sign(0, 100, 600, 100), x.sign(0, 600, each[0], 2000)), 1, 600, each[1], 100);
        }
        Check.test("ROOT: DEPTH is that of a, whatever b is");
        Ropewalk x = new Ropewalk();
        Check.sizes(x, x.root(x.sign(0, 100, 0, 0), x.sign(0, 600, 0, 2000)), 1, 600, 120, 0);
    }

    /** The PARTS 0, 1 and 2 are a, b and c, and 3 the SCRIPTS of those that are asked for. */
    private static Ropewalk scripts(int[] a, int[] b, int[] c) {
        Ropewalk x = new Ropewalk();
        int base = x.sign(0, 100, a[0], a[1]);
        int upper = b == null ? x.space(0) : x.sign(0, 100, b[0], b[1]);
        int lower = c == null ? x.space(0) : x.sign(0, 100, c[0], c[1]);
        x.scripts(base, b == null ? -1 : upper, c == null ? -1 : lower);
        return x;
    }

    private static void scriptsUp() {
        Check.test("SCRIPTS: u is 400*, or HEIGHT of a - 200*, if that is more");
        int[][] us = {{1, 0, 400}, {1, 599, 400}, {1, 600, 400}, {1, 601, 401}, {1, 2000, 1800},
            {2, 599, 280}, {2, 600, 280}, {2, 601, 280}, {2, 602, 281}, {3, 600, 200}, {3, 601, 200}, {3, 602, 201}};
        for (int[] each : us) {
            Ropewalk x = scripts(new int[] {each[1], 0}, new int[] {0, 0}, null);
            x.top(3, each[0]);
            Check.due("y of b in STYLE " + each[0], x.place(1, 2), each[2]);
            Check.due("x of b in STYLE " + each[0], x.place(1, 1), x.place(0, 3));
        }
        Check.test("SCRIPTS: v is 150*, or DEPTH of a + 100*, if that is more");
        int[][] vs = {{1, 0, 150}, {1, 49, 150}, {1, 50, 150}, {1, 51, 151}, {1, 2000, 2100},
            {2, 50, 105}, {2, 51, 105}, {2, 52, 106}, {3, 50, 75}, {3, 51, 75}, {3, 52, 76}};
        for (int[] each : vs) {
            Ropewalk x = scripts(new int[] {0, each[1]}, null, new int[] {0, 0});
            x.top(3, each[0]);
            Check.due("y of c in STYLE " + each[0], x.place(2, 2), -each[2]);
            Check.due("x of c in STYLE " + each[0], x.place(2, 1), x.place(0, 3));
        }
    }

    private static void scriptsBetween() {
        Check.test("SCRIPTS: with both, if there is less than 160* between, u is more by what is missing");
        // u is 400 and v 150 in the STYLE 1; b and c have the STYLE 2: 558 is 390 there, 560 is 392
        int[][] both = {{0, 556, 400}, {0, 558, 400}, {0, 559, 401}, {0, 560, 402}, {0, 2000, 1410},
            {1, 558, 400}, {2, 558, 401}, {300, 0, 400}, {557, 0, 400}, {558, 0, 400}, {559, 0, 401}, {2000, 2000, 2810}};
        for (int[] each : both) {
            Ropewalk x = scripts(new int[] {0, 0}, new int[] {0, each[0]}, new int[] {each[1], 0});
            x.top(3, 1);
            Check.due("y of b over c of " + each[1], x.place(1, 2), each[2]);
            Check.due("y of c", x.place(2, 2), -150);
        }
        // in the STYLE 2 u is 280, v 105, 160* is 112, and b and c have the STYLE 3
        int[][] small = {{0, 546, 280}, {0, 547, 280}, {0, 548, 281}, {546, 0, 280}, {548, 0, 281}};
        for (int[] each : small) {
            Ropewalk x = scripts(new int[] {0, 0}, new int[] {0, each[0]}, new int[] {each[1], 0});
            x.top(3, 2);
            Check.due("y of b over c of " + each[1] + " in STYLE 2", x.place(1, 2), each[2]);
        }
        Check.test("SCRIPTS: with one alone, u is not more, however deep b or high c is");
        Ropewalk upper = scripts(new int[] {0, 0}, new int[] {0, 2000}, null);
        upper.top(3, 1);
        Check.due("y of b alone", upper.place(1, 2), 400);
        Ropewalk lower = scripts(new int[] {0, 0}, null, new int[] {2000, 0});
        lower.top(3, 1);
        Check.due("y of c alone", lower.place(2, 2), -150);
    }

    private static void scriptsSizes() {
        int[] none = {0, 0};
        Check.test("SCRIPTS: HEIGHT is the greatest of HEIGHT of a, u + HEIGHT of b, and HEIGHT of c - v");
        Check.due("all 0", scripts(none, none, none).size(3, 1, 1), 400);
        Check.due("a, b just below", scripts(new int[] {700, 0}, new int[] {285, 0}, null).size(3, 1, 1), 700);
        Check.due("a, b as high", scripts(new int[] {700, 0}, new int[] {286, 0}, null).size(3, 1, 1), 700);
        Check.due("b, just above", scripts(new int[] {700, 0}, new int[] {288, 0}, null).size(3, 1, 1), 701);
        Check.due("a, c as high", scripts(new int[] {300, 0}, null, new int[] {643, 0}).size(3, 1, 1), 300);
        Check.due("c, just above", scripts(new int[] {300, 0}, null, new int[] {645, 0}).size(3, 1, 1), 301);
        Check.due("c, far below", scripts(none, null, none).size(3, 1, 1), 0);
        Check.test("SCRIPTS: DEPTH is the greatest of DEPTH of a, v + DEPTH of c, and DEPTH of b - u");
        Check.due("all 0", scripts(none, none, none).size(3, 1, 2), 150);
        Check.due("c below a", scripts(new int[] {0, 60}, null, none).size(3, 1, 2), 160);
        Check.due("b, as deep as a", scripts(new int[] {0, 300}, new int[] {0, 1000}, null).size(3, 1, 2), 300);
        Check.due("b, just below a", scripts(new int[] {0, 300}, new int[] {0, 1002}, null).size(3, 1, 2), 301);
        Check.due("b, just above a", scripts(new int[] {0, 300}, new int[] {0, 998}, null).size(3, 1, 2), 300);
        Check.due("b, far above", scripts(none, none, null).size(3, 1, 2), 0);
        Check.due("b and c", scripts(none, new int[] {0, 2000}, none).size(3, 1, 2), 150);
        Check.test("SCRIPTS: without b, or c, what is of it is left out of the WIDTH");
        Ropewalk x = new Ropewalk();
        Check.sizes(x, x.scripts(x.sign(0, 100, 0, 0), x.sign(0, 10, 0, 0), -1), 1, 157, 400, 0);
        Check.sizes(x, x.scripts(x.sign(0, 100, 0, 0), -1, x.sign(0, 20, 0, 0)), 1, 164, 0, 150);
        Check.sizes(x, x.scripts(x.sign(0, 100, 0, 0), x.sign(0, 10, 0, 0), x.sign(0, 20, 0, 0)), 1, 164, 400, 150);
        Check.sizes(x, x.scripts(x.sign(0, 100, 0, 0), x.sign(0, 20, 0, 0), x.sign(0, 10, 0, 0)), 1, 164, 400, 150);
        Check.sizes(x, x.scripts(x.sign(0, 0, 0, 0), x.sign(0, 0, 0, 0), -1), 3, 25, 200, 0);
        Check.test("SCRIPTS: b and c have the STYLE 2 (in 0 and 1) or 3");
        Ropewalk y = scripts(none, none, none);
        for (int style = 0; style <= 3; style++) {
            y.top(3, style);
            Check.due("STYLE of a", y.place(0, 0), style);
            Check.due("STYLE of b", y.place(1, 0), style < 2 ? 2 : 3);
            Check.due("STYLE of c", y.place(2, 0), style < 2 ? 2 : 3);
        }
    }

    private static void scriptsStyles() {
        int[] none = {0, 0};
        int[] high = {2000, 0};
        int[] deep = {0, 2000};
        Check.test("SCRIPTS: b and c have their sizes by the STYLE that each has there");
        // 2000 is 1400 in the STYLE 2 and 1000 in 3; u is 400, 280 and 200, v is 150, 105 and 75
        int[][] due = {{1800, 1000, 1250, 1550, 220}, {1800, 1000, 1250, 1550, 220}, {1280, 720, 895, 1105, 155},
            {1200, 800, 925, 1075, 125}};
        for (int style = 0; style <= 3; style++) {
            String in = " in STYLE " + style;
            Check.due("u + HEIGHT of b" + in, scripts(none, high, null).size(3, style, 1), due[style][0]);
            Check.due("DEPTH of b - u" + in, scripts(none, deep, null).size(3, style, 2), due[style][1]);
            Check.due("HEIGHT of c - v" + in, scripts(none, null, high).size(3, style, 1), due[style][2]);
            Check.due("v + DEPTH of c" + in, scripts(none, null, deep).size(3, style, 2), due[style][3]);
            Check.due("WIDTH with b" + in, scripts(none, none, null).size(3, style, 0), due[style][4]);
            Check.due("WIDTH with c" + in, scripts(none, null, none).size(3, style, 0), due[style][4]);
        }
    }

    private static void fence() {
        Check.test("FENCE: k is the smallest number from 1 on for which k * 300* is not below r");
        int[][] due = {{0, 0, 1}, {549, 0, 1}, {550, 0, 1}, {551, 0, 2}, {850, 0, 2}, {851, 0, 3}, {2000, 0, 6},
            {0, 49, 1}, {0, 50, 1}, {0, 51, 2}, {0, 350, 2}, {0, 351, 3}, {0, 2000, 8}, {550, 50, 1}, {550, 51, 2},
            {551, 50, 2}, {850, 350, 2}, {851, 350, 3}, {850, 351, 3}, {1750, 0, 5}, {1751, 0, 6}};
        for (int[] each : due) {
            Ropewalk x = new Ropewalk();
            int fence = x.fence(x.sign(0, 10, each[0], each[1]), true, true);
            Check.sizes(x, fence, 0, 810, 250 + each[2] * 300, each[2] * 300 - 250);
            Check.sizes(x, fence, 1, 810, 250 + each[2] * 300, each[2] * 300 - 250);
        }
        // 250* is 175 and 300* 210 in the STYLE 2: 385 is 550 there, 386 is 552, 35 is 51, 36 is 52
        int[][] small = {{2, 550, 0, 385, 35}, {2, 551, 0, 385, 35}, {2, 552, 0, 595, 245}, {2, 0, 51, 385, 35},
            {2, 0, 52, 595, 245}, {3, 551, 0, 275, 25}, {3, 552, 0, 425, 175}, {3, 0, 51, 275, 25}, {3, 0, 52, 425, 175}};
        for (int[] each : small) {
            Ropewalk x = new Ropewalk();
            int fence = x.fence(x.sign(0, 0, each[1], each[2]), true, false);
            Check.sizes(x, fence, each[0], each[0] == 2 ? 280 : 200, each[3], each[4]);
        }
        Check.test("FENCE: WIDTH is that of a + 400* for each side; a begins at 400* with a left one, otherwise at 0");
        for (int style = 0; style <= 3; style++) {
            int side = style < 2 ? 400 : style == 2 ? 280 : 200;
            for (int sides = 1; sides <= 3; sides++) {
                Ropewalk x = new Ropewalk();
                int fence = x.fence(x.sign(0, 0, 0, 0), sides != 2, sides != 1);
                x.top(fence, style);
                Check.due("WIDTH", x.place(fence, 3), sides == 3 ? 2 * side : side);
                Check.lies(x, 0, style, sides == 2 ? 0 : side, 0);
            }
        }
    }

    private static void matrixDown() {
        Check.test("MATRIX: HEIGHT is t / 2 + 250*, cut; DEPTH is t - HEIGHT, not below 0");
        int[][] due = {{0, 250, 0}, {1, 250, 0}, {2, 251, 0}, {499, 499, 0}, {500, 500, 0}, {501, 500, 1},
            {502, 501, 1}, {503, 501, 2}, {2000, 1250, 750}};
        for (int[] each : due) {
            for (int deep = 0; deep <= each[0] && deep <= 1; deep++) {
                Ropewalk x = new Ropewalk();
                int matrix = x.matrix(1, 1);
                x.fit(matrix, 0, x.sign(0, 10, each[0] - deep, deep));
                Check.sizes(x, matrix, 1, 10, each[1], each[2]);
                x.top(matrix, 1);
                Check.lies(x, 1, 1, 0, each[1] - each[0] + deep);
            }
        }
        Check.test("MATRIX: each row is as high and deep as the highest and deepest in it");
        Ropewalk x = new Ropewalk();
        int matrix = x.matrix(3, 2);
        int[][] sizes = {{100, 7}, {101, 6}, {50, 50}, {50, 50}, {0, 30}, {31, 0}};
        for (int i = 0; i < 6; i++) {
            x.fit(matrix, i, x.sign(0, 0, sizes[i][0], sizes[i][1]));
        }
        // 101 + 7, 50 + 50, 31 + 30 and twice 300: t is 869
        Check.sizes(x, matrix, 1, 600, 684, 185);
        x.top(matrix, 0);
        int[] ys = {583, 583, 226, 226, -155, -155};
        for (int i = 0; i < 6; i++) {
            Check.lies(x, matrix + 1 + i, 1, i % 2 * 600, ys[i]);
        }
    }

    private static void matrixAcross() {
        Check.test("MATRIX: each column is as wide as the widest in it; each begins at (that's width - its own) / 2");
        Ropewalk x = new Ropewalk();
        int matrix = x.matrix(3, 2);
        int[] widths = {100, 7, 103, 6, 101, 0};
        for (int i = 0; i < 6; i++) {
            x.fit(matrix, i, x.sign(0, widths[i], 0, 0));
        }
        Check.sizes(x, matrix, 1, 710, 550, 50);
        x.top(matrix, 1);
        int[] begins = {1, 703, 0, 703, 1, 706};
        for (int i = 0; i < 6; i++) {
            Check.lies(x, matrix + 1 + i, 1, begins[i], 550 - i / 2 * 300);
        }
        Check.test("MATRIX: all in it have the STYLE 1 in 0, otherwise its own");
        for (int style = 0; style <= 3; style++) {
            x.top(matrix, style);
            for (int part = 1; part <= 6; part++) {
                Check.due("STYLE", x.place(part, 0), Math.max(1, style));
            }
        }
    }

    private static void matrixPlaces() {
        Check.test("MATRIX: wherever the widest, highest and deepest one is");
        for (int rows = 1; rows <= 4; rows++) {
            for (int columns = 1; columns <= 4; columns++) {
                for (int place = 0; place < rows * columns; place++) {
                    onePlace(rows, columns, place);
                }
            }
        }
    }

    /** All other places are empty, so that their columns and rows are 0 wide, high and deep. */
    private static void onePlace(int rows, int columns, int place) {
        Ropewalk x = new Ropewalk();
        int matrix = x.matrix(rows, columns);
        int part = x.sign(0, 40, 700, 900);
        x.fit(matrix, place, part);
        int t = 1600 + (rows - 1) * 300;
        Check.sizes(x, matrix, 1, 40 + (columns - 1) * 600, t / 2 + 250, t - t / 2 - 250);
        x.top(matrix, 1);
        Check.lies(x, part, 1, place % columns * 600, t / 2 + 250 - place / columns * 300 - 700);
    }

    private static void bar() {
        Check.test("BAR: WIDTH and DEPTH are those of a, HEIGHT that + 120*");
        int[][] due = {{0, 0, 0, 0}, {2000, 2000, 2000, 120}, {1, 1, 1, 120}};
        for (int[] each : due) {
            Ropewalk x = new Ropewalk();
            int bar = x.bar(x.sign(0, each[0], each[1], each[2]));
            Check.sizes(x, bar, 0, each[0], each[1] + 120, each[2]);
            Check.sizes(x, bar, 2, each[0] * 7 / 10, each[1] * 7 / 10 + 84, each[2] * 7 / 10);
            Check.sizes(x, bar, 3, each[0] / 2, each[1] / 2 + 60, each[2] / 2);
            x.top(bar, 3);
            Check.lies(x, 0, 3, 0, 0);
        }
    }
}
