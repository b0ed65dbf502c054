/** A typesetter for formulas. */
public final class Ropewalk {
    private static final int MOST_PARTS = 60;
    private static final int MOST_IN_ROW = 16;
    private static final int MOST_ACROSS = 4;
    private static final int MOST_SIZE = 2000;
    private static final int MOST_ROOM = 100000;
    private static final int MOST_LINES = 16;
    private static final int NONE = -1;

    private static final int SIGN = 0;
    private static final int SPACE = 1;
    private static final int ROW = 2;
    private static final int FRACTION = 3;
    private static final int ROOT = 4;
    private static final int SCRIPTS = 5;
    private static final int FENCE = 6;
    private static final int MATRIX = 7;
    private static final int BAR = 8;

    private static final int PLAIN = 0;
    private static final int JOINING = 1;
    private static final int RELATING = 2;
    private static final int OPENING = 3;
    private static final int CLOSING = 4;
    private static final int COMMA = 5;

    private static final int SHOWN = 0;
    private static final int RUNNING = 1;
    private static final int SMALL = 2;
    private static final int TINY = 3;
    private static final int STYLES = 4;

    private static final int WIDTH = 0;
    private static final int HEIGHT = 1;
    private static final int DEPTH = 2;
    private static final int SIZES = 3;

    private static final long NO_COST_YET = 0x7fffffffffffffffL;
    private static final long FIRST_DIGEST = 58074L;
    private static final int DIGEST_ROOM = 3000;
    private static final int DIGEST_LINES = 2;

    private final Part[] all = new Part[MOST_PARTS];
    private final Part[] ownersFirst = new Part[MOST_PARTS];
    private final Breaking kept = new Breaking();
    private final Breaking trial = new Breaking();
    private int count;
    private Part top;
    private int topStyle;
    private boolean isStale;

    public Ropewalk() {
        count = 0;
        top = null;
        topStyle = SHOWN;
        isStale = false;
    }

    // ---- parts

    public int sign(int itsClass, int width, int height, int depth)
            throws IllegalArgumentException, IllegalStateException {
        if (itsClass < PLAIN || itsClass > COMMA || !areSizes(width, height, depth)) {
            throw new IllegalArgumentException("no such CLASS or size");
        }
        if (isFull()) {
            throw new IllegalStateException("there are 60 PARTS");
        }
        return add(new Sign(count, itsClass, width, height, depth));
    }

    public int space(int width) throws IllegalArgumentException, IllegalStateException {
        if (!isSize(width)) {
            throw new IllegalArgumentException("no such width");
        }
        if (isFull()) {
            throw new IllegalStateException("there are 60 PARTS");
        }
        return add(new Space(count, width));
    }

    public int row() throws IllegalStateException {
        if (isFull()) {
            throw new IllegalStateException("there are 60 PARTS");
        }
        return add(new Row(count));
    }

    public int put(int row, int part)
            throws IndexOutOfBoundsException, IllegalArgumentException, IllegalStateException {
        Part outer = partOf(row);
        Part inner = partOf(part);
        if (outer == null || inner == null) {
            throw new IndexOutOfBoundsException("no such PART");
        }
        if (!(outer instanceof Row)) {
            throw new IllegalArgumentException("no ROW");
        }
        Row its = (Row) outer;
        if (its.named >= MOST_IN_ROW || !canBeNamed(inner) || isWithin(its, inner)) {
            throw new IllegalStateException("the ROW is full, or the PART cannot be put into it");
        }
        its.append(inner);
        isStale = true;
        return its.named;
    }

    public int fraction(int a, int b) throws IndexOutOfBoundsException, IllegalStateException {
        Part upper = partOf(a);
        Part lower = partOf(b);
        if (upper == null || lower == null) {
            throw new IndexOutOfBoundsException("no such PART");
        }
        if (isFull() || !canBeNamed(upper) || !canBeNamed(lower) || upper == lower) {
            throw new IllegalStateException("no FRACTION can be made of these");
        }
        Part made = new Fraction(count);
        made.take(0, upper);
        made.take(1, lower);
        return add(made);
    }

    public int root(int a, int b) throws IndexOutOfBoundsException, IllegalStateException {
        Part inner = partOf(a);
        Part index = partOf(b);
        if (inner == null || isMissing(b, index)) {
            throw new IndexOutOfBoundsException("no such PART");
        }
        if (isFull() || !canBeNamed(inner) || !isNoneOrCanBeNamed(index) || inner == index) {
            throw new IllegalStateException("no ROOT can be made of these");
        }
        Part made = new Root(count);
        made.take(0, inner);
        made.take(1, index);
        return add(made);
    }

    public int scripts(int a, int b, int c)
            throws IndexOutOfBoundsException, IllegalArgumentException, IllegalStateException {
        Part base = partOf(a);
        Part upper = partOf(b);
        Part lower = partOf(c);
        if (base == null || isMissing(b, upper) || isMissing(c, lower)) {
            throw new IndexOutOfBoundsException("no such PART");
        }
        if (upper == null && lower == null) {
            throw new IllegalArgumentException("neither an upper nor a lower one");
        }
        if (isFull() || !canBeNamed(base) || !isNoneOrCanBeNamed(upper) || !isNoneOrCanBeNamed(lower)
                || base == upper || base == lower || upper == lower) {
            throw new IllegalStateException("no SCRIPTS can be made of these");
        }
        Part made = new Scripts(count);
        made.take(0, base);
        made.take(1, upper);
        made.take(2, lower);
        return add(made);
    }

    public int fence(int a, boolean isLeft, boolean isRight)
            throws IndexOutOfBoundsException, IllegalArgumentException, IllegalStateException {
        Part inner = partOf(a);
        if (inner == null) {
            throw new IndexOutOfBoundsException("no such PART");
        }
        if (!isLeft && !isRight) {
            throw new IllegalArgumentException("neither left nor right");
        }
        if (isFull() || !canBeNamed(inner)) {
            throw new IllegalStateException("no FENCE can be made of this");
        }
        Part made = new Fence(count, isLeft, isRight);
        made.take(0, inner);
        return add(made);
    }

    public int matrix(int rows, int columns) throws IllegalArgumentException, IllegalStateException {
        if (rows < 1 || rows > MOST_ACROSS || columns < 1 || columns > MOST_ACROSS) {
            throw new IllegalArgumentException("rows and columns are 1 to 4");
        }
        if (isFull()) {
            throw new IllegalStateException("there are 60 PARTS");
        }
        return add(new Matrix(count, rows, columns));
    }

    public int fit(int matrix, int place, int part)
            throws IndexOutOfBoundsException, IllegalArgumentException, IllegalStateException {
        Part outer = partOf(matrix);
        Part inner = partOf(part);
        if (outer == null || inner == null) {
            throw new IndexOutOfBoundsException("no such PART");
        }
        if (!(outer instanceof Matrix) || !outer.hasSlot(place)) {
            throw new IllegalArgumentException("no MATRIX, or no such place");
        }
        if (outer.partIn(place) != null || !canBeNamed(inner) || isWithin(outer, inner)) {
            throw new IllegalStateException("the place is taken, or the PART cannot be put into it");
        }
        outer.take(place, inner);
        isStale = true;
        return outer.named;
    }

    public int bar(int a) throws IndexOutOfBoundsException, IllegalStateException {
        Part inner = partOf(a);
        if (inner == null) {
            throw new IndexOutOfBoundsException("no such PART");
        }
        if (isFull() || !canBeNamed(inner)) {
            throw new IllegalStateException("no BAR can be made over this");
        }
        Part made = new Bar(count);
        made.take(0, inner);
        return add(made);
    }

    public int resize(int part, int width, int height, int depth)
            throws IndexOutOfBoundsException, IllegalArgumentException {
        Part its = partOf(part);
        if (its == null) {
            throw new IndexOutOfBoundsException("no such PART");
        }
        if (!(its instanceof Sign) || !areSizes(width, height, depth)) {
            throw new IllegalArgumentException("no SIGN, or no such size");
        }
        Sign changed = (Sign) its;
        int before = changed.width;
        changed.width = width;
        changed.height = height;
        changed.depth = depth;
        isStale = true;
        return before;
    }

    public int parts() {
        return count;
    }

    public int ofPart(int part, int what) throws IndexOutOfBoundsException, IllegalArgumentException {
        Part its = partOf(part);
        if (its == null) {
            throw new IndexOutOfBoundsException("no such PART");
        }
        if (what < 0 || what > 2) {
            throw new IllegalArgumentException("what is 0 to 2");
        }
        return its.fact(what);
    }

    // ---- sizes and places

    public int size(int part, int style, int what) throws IndexOutOfBoundsException, IllegalArgumentException {
        Part its = partOf(part);
        if (its == null) {
            throw new IndexOutOfBoundsException("no such PART");
        }
        if (!isStyle(style) || what < WIDTH || what > DEPTH) {
            throw new IllegalArgumentException("style is 0 to 3, what 0 to 2");
        }
        refresh();
        return (int) its.told(style, what);
    }

    public int top(int part, int style)
            throws IndexOutOfBoundsException, IllegalArgumentException, IllegalStateException {
        Part its = partOf(part);
        if (its == null) {
            throw new IndexOutOfBoundsException("no such PART");
        }
        if (!isStyle(style)) {
            throw new IllegalArgumentException("style is 0 to 3");
        }
        if (its.owner != null) {
            throw new IllegalStateException("it has an OWNER");
        }
        top = its;
        topStyle = style;
        isStale = true;
        refresh();
        return countInTop();
    }

    public int place(int part, int what)
            throws IndexOutOfBoundsException, IllegalArgumentException, IllegalStateException {
        Part its = partOf(part);
        if (its == null) {
            throw new IndexOutOfBoundsException("no such PART");
        }
        if (what < 0 || what > 5) {
            throw new IllegalArgumentException("what is 0 to 5");
        }
        refresh();
        if (!its.isInTop()) {
            throw new IllegalStateException("it is not in the TOP");
        }
        return (int) its.factInTop(what);
    }

    public int at(int x, int y) {
        refresh();
        int best = NONE;
        int innermost = NONE;
        for (int i = 0; i < count; i++) {
            Part p = partOf(i);
            if (p != null && p.level > innermost && p.covers(x, y)) {
                innermost = p.level;
                best = i;
            }
        }
        return best;
    }

    public int classAt(int row, int place) throws IndexOutOfBoundsException, IllegalArgumentException {
        Part its = partOf(row);
        if (its == null) {
            throw new IndexOutOfBoundsException("no such PART");
        }
        if (!(its instanceof Row) || place < 0 || place >= its.named) {
            throw new IllegalArgumentException("no ROW, or no such place");
        }
        return ((Row) its).reckonedAt(place);
    }

    public int gap(int row, int place) throws IndexOutOfBoundsException, IllegalArgumentException {
        Part its = partOf(row);
        if (its == null) {
            throw new IndexOutOfBoundsException("no such PART");
        }
        if (!(its instanceof Row) || place < 0 || place >= its.named) {
            throw new IllegalArgumentException("no ROW, or no such place");
        }
        return ((Row) its).gapBehind(place, RUNNING);
    }

    // ---- lines

    public int breakRow(int row, int room) throws IndexOutOfBoundsException, IllegalArgumentException {
        Part its = partOf(row);
        if (its == null) {
            throw new IndexOutOfBoundsException("no such PART");
        }
        if (!(its instanceof Row) || !isRoom(room)) {
            throw new IllegalArgumentException("no ROW, or no such room");
        }
        refresh();
        kept.breakBest((Row) its, room);
        return kept.lines;
    }

    public int line(int line, int what) throws IndexOutOfBoundsException, IllegalArgumentException {
        if (line < 0 || line >= kept.lines) {
            throw new IndexOutOfBoundsException("no such LINE is kept");
        }
        if (what < 0 || what > 1) {
            throw new IllegalArgumentException("what is 0 or 1");
        }
        return what == 0 ? kept.partsOf(line) : (int) kept.widthOf(line);
    }

    public long cost() {
        return kept.sum;
    }

    // ---- what would be

    public int linesWith(int row, int room) throws IndexOutOfBoundsException, IllegalArgumentException {
        Part its = partOf(row);
        if (its == null) {
            throw new IndexOutOfBoundsException("no such PART");
        }
        if (!(its instanceof Row) || !isRoom(room)) {
            throw new IllegalArgumentException("no ROW, or no such room");
        }
        refresh();
        trial.breakBest((Row) its, room);
        return trial.lines;
    }

    public int roomFor(int row, int lines) throws IndexOutOfBoundsException, IllegalArgumentException {
        Part its = partOf(row);
        if (its == null) {
            throw new IndexOutOfBoundsException("no such PART");
        }
        if (!(its instanceof Row) || lines < 1 || lines > MOST_LINES) {
            throw new IllegalArgumentException("no ROW, or lines is not 1 to 16");
        }
        refresh();
        return findRoom((Row) its, lines);
    }

    public int widthWith(int part, int width)
            throws IndexOutOfBoundsException, IllegalArgumentException, IllegalStateException {
        Part its = partOf(part);
        if (its == null) {
            throw new IndexOutOfBoundsException("no such PART");
        }
        if (!(its instanceof Sign) || !isSize(width)) {
            throw new IllegalArgumentException("no SIGN, or no such width");
        }
        if (top == null) {
            throw new IllegalStateException("there is no TOP");
        }
        Sign tried = (Sign) its;
        int before = tried.width;
        tried.width = width;
        int answer = (int) widthOfTopAnew();
        tried.width = before;
        isStale = true;
        return answer;
    }

    public double density() {
        refresh();
        long whole = top == null ? 0 : top.told(topStyle, WIDTH);
        if (whole == 0) {
            return 0;
        }
        return (double) sumOfSigns() / (double) whole;
    }

    public long digest() {
        refresh();
        long d = mixed(FIRST_DIGEST, count);
        for (int i = 0; i < count; i++) {
            d = withPart(d, partOf(i));
        }
        for (int i = 0; i < count; i++) {
            Part p = partOf(i);
            if (p instanceof Row) {
                d = withRow(d, (Row) p);
            }
        }
        return withKeptLines(d);
    }

    // ---- what the calls share

    private static boolean isSize(int size) {
        return size >= 0 && size <= MOST_SIZE;
    }

    private static boolean areSizes(int width, int height, int depth) {
        return isSize(width) && isSize(height) && isSize(depth);
    }

    private static boolean isStyle(int style) {
        return style >= SHOWN && style <= TINY;
    }

    private static boolean isRoom(int room) {
        return room >= 1 && room <= MOST_ROOM;
    }

    private static long scaled(long n, int style) {
        int percents = style == TINY ? 50 : style == SMALL ? 70 : 100;
        return n * percents / 100;
    }

    private boolean isFull() {
        return count >= MOST_PARTS;
    }

    private int add(Part made) {
        if (count >= 0 && count < all.length) {
            all[count] = made;
            count++;
        }
        isStale = true;
        return made.number;
    }

    /** The PART of this number; null if there is none. */
    private Part partOf(int number) {
        return number >= 0 && number < count && number < all.length ? all[number] : null;
    }

    private static boolean isMissing(int number, Part found) {
        return number != NONE && found == null;
    }

    private boolean canBeNamed(Part p) {
        return p.owner == null && p != top;
    }

    private boolean isNoneOrCanBeNamed(Part p) {
        return p == null || canBeNamed(p);
    }

    private static boolean isWithin(Part inner, Part outer) {
        Part p = inner;
        for (int i = 0; i <= MOST_PARTS && p != null; i++) {
            if (p == outer) {
                return true;
            }
            p = p.owner;
        }
        return false;
    }

    // ---- laying out

    /** Sizes and places are reckoned when they are asked for, so that many changes cost one reckoning. */
    private void refresh() {
        if (isStale) {
            int listed = listOwnersFirst();
            measureAll(listed);
            layOutTop(listed);
            isStale = false;
        }
    }

    /** A ROW may own PARTS told behind it, so the numbers' order would not do. */
    private int listOwnersFirst() {
        int listed = 0;
        for (int i = 0; i < count; i++) {
            Part p = partOf(i);
            if (p != null && p.owner == null) {
                listed = list(p, listed);
            }
        }
        for (int i = 0; i < listed && i < MOST_PARTS; i++) {
            listed = listPartsIn(listedAt(i), listed);
        }
        return listed;
    }

    private int listPartsIn(Part outer, int listed) {
        if (outer == null) {
            return listed;
        }
        int now = listed;
        for (int slot = 0; slot < outer.in.length; slot++) {
            Part p = outer.partIn(slot);
            if (p != null) {
                now = list(p, now);
            }
        }
        return now;
    }

    private int list(Part p, int listed) {
        if (listed < 0 || listed >= ownersFirst.length) {
            return listed;
        }
        ownersFirst[listed] = p;
        return listed + 1;
    }

    private Part listedAt(int i) {
        return i >= 0 && i < ownersFirst.length ? ownersFirst[i] : null;
    }

    private void measureAll(int listed) {
        for (int i = listed - 1; i >= 0; i--) {
            Part p = listedAt(i);
            for (int style = 0; p != null && style < STYLES; style++) {
                p.measure(style);
            }
        }
    }

    private void layOutTop(int listed) {
        for (int i = 0; i < listed; i++) {
            Part p = listedAt(i);
            if (p != null) {
                p.level = NONE;
            }
        }
        if (top != null) {
            top.lieAt(0, topStyle, 0, 0);
        }
        for (int i = 0; i < listed; i++) {
            Part p = listedAt(i);
            if (p != null && p.isInTop()) {
                // measured anew, as it was last measured in another STYLE than it may have in the TOP
                p.measure(p.style);
                p.layOutParts();
            }
        }
    }

    private int countInTop() {
        int n = 0;
        for (int i = 0; i < count; i++) {
            Part p = partOf(i);
            if (p != null && p.isInTop()) {
                n++;
            }
        }
        return n;
    }

    private long widthOfTopAnew() {
        measureAll(listOwnersFirst());
        return top == null ? 0 : top.told(topStyle, WIDTH);
    }

    private long sumOfSigns() {
        long sum = 0;
        for (int i = 0; i < count; i++) {
            Part p = partOf(i);
            if (p instanceof Sign && p.isInTop()) {
                sum += p.factInTop(3);
            }
        }
        return sum;
    }

    // ---- trying rooms

    private int findRoom(Row row, int lines) {
        int low = 1;
        int high = MOST_ROOM;
        for (int i = 0; i < MOST_ROOM && low < high; i++) {
            int m = (low + high) / 2;
            trial.breakBest(row, m);
            if (trial.lines > lines || trial.hasWider(m)) {
                low = m + 1;
            } else {
                high = m;
            }
        }
        return low;
    }

    // ---- the checksum

    private static long mixed(long d, long x) {
        return d * 31 + x;
    }

    private static long withPart(long before, Part p) {
        long d = before;
        if (p == null) {
            return d;
        }
        for (int what = 0; what <= 2; what++) {
            d = mixed(d, p.fact(what));
        }
        for (int what = WIDTH; what <= DEPTH; what++) {
            d = mixed(d, p.told(SHOWN, what));
        }
        for (int what = WIDTH; what <= DEPTH; what++) {
            d = mixed(d, p.told(SMALL, what));
        }
        for (int what = 0; p.isInTop() && what <= 5; what++) {
            d = mixed(d, p.factInTop(what));
        }
        return d;
    }

    private long withRow(long before, Row row) {
        long d = before;
        for (int i = 0; i < row.named; i++) {
            d = mixed(d, row.reckonedAt(i));
            d = mixed(d, row.gapBehind(i, RUNNING));
        }
        trial.breakBest(row, DIGEST_ROOM);
        d = mixed(d, trial.lines);
        return mixed(d, findRoom(row, DIGEST_LINES));
    }

    private long withKeptLines(long before) {
        long d = mixed(before, kept.lines);
        for (int i = 0; i < kept.lines; i++) {
            d = mixed(d, kept.partsOf(i));
            d = mixed(d, kept.widthOf(i));
        }
        return mixed(d, kept.sum);
    }

    /**
     * One PART: what is named in it, its sizes in each STYLE, and where it lies in the TOP.
     * Sizes are long: a FRACTION in a FENCE, again and again, doubles the height.
     */
    private abstract static class Part {
        final int number;
        final int kind;
        final Part[] in;
        int named;
        Part owner;
        int level;
        int style;
        private long x;
        private long y;
        private final long[] sizes;
        private final long[] lefts;
        private final long[] ups;

        Part(int itsNumber, int itsKind, int slots) {
            number = itsNumber;
            kind = itsKind;
            in = new Part[slots < 0 ? 0 : slots];
            sizes = new long[STYLES * SIZES];
            lefts = new long[in.length];
            ups = new long[in.length];
            level = NONE;
        }

        /** Keeps the sizes in this STYLE, and where the PARTS in it begin; theirs must be measured already. */
        abstract void measure(int inStyle);

        /** The STYLE of the PART in a slot, if this one has the given STYLE. */
        int styleIn(int slot, int inStyle) {
            return inStyle;
        }

        /** The CLASS as told; a JOINING one may be reckoned otherwise in a ROW. */
        int toldClass() {
            return PLAIN;
        }

        boolean hasSlot(int slot) {
            return slot >= 0 && slot < in.length;
        }

        Part partIn(int slot) {
            return slot >= 0 && slot < in.length ? in[slot] : null;
        }

        void take(int slot, Part p) {
            if (p != null && slot >= 0 && slot < in.length) {
                in[slot] = p;
                p.owner = this;
                named++;
            }
        }

        int fact(int what) {
            if (what == 0) {
                return kind;
            }
            if (what == 2) {
                return named;
            }
            return owner == null ? NONE : owner.number;
        }

        long told(int inStyle, int what) {
            int i = inStyle * SIZES + what;
            return i >= 0 && i < sizes.length ? sizes[i] : 0;
        }

        /** A size of the PART in a slot, in the STYLE that it has there; 0 without one. */
        long of(int slot, int inStyle, int what) {
            Part p = partIn(slot);
            return p == null ? 0 : p.told(styleIn(slot, inStyle), what);
        }

        void keep(int inStyle, long width, long height, long depth) {
            int i = inStyle * SIZES;
            if (i >= 0 && i + DEPTH < sizes.length) {
                sizes[i + WIDTH] = width;
                sizes[i + HEIGHT] = height;
                sizes[i + DEPTH] = depth;
            }
        }

        void lay(int slot, long left, long up) {
            if (slot >= 0 && slot < lefts.length && slot < ups.length) {
                lefts[slot] = left;
                ups[slot] = up;
            }
        }

        boolean isInTop() {
            return level >= 0;
        }

        void lieAt(int itsLevel, int itsStyle, long itsX, long itsY) {
            level = itsLevel;
            style = itsStyle;
            x = itsX;
            y = itsY;
        }

        void layOutParts() {
            for (int slot = 0; slot < in.length && slot < lefts.length && slot < ups.length; slot++) {
                Part p = in[slot];
                if (p != null) {
                    p.lieAt(level + 1, styleIn(slot, style), x + lefts[slot], y + ups[slot]);
                }
            }
        }

        long factInTop(int what) {
            if (what == 0) {
                return style;
            }
            if (what == 1) {
                return x;
            }
            return what == 2 ? y : told(style, what - 3);
        }

        boolean covers(long itsX, long itsY) {
            return itsX >= x && itsX < x + told(style, WIDTH)
                    && itsY >= y - told(style, DEPTH) && itsY < y + told(style, HEIGHT);
        }
    }

    private static final class Sign extends Part {
        int width;
        int height;
        int depth;
        private final int itsClass;

        Sign(int number, int aClass, int aWidth, int aHeight, int aDepth) {
            super(number, SIGN, 0);
            itsClass = aClass;
            width = aWidth;
            height = aHeight;
            depth = aDepth;
        }

        int toldClass() {
            return itsClass;
        }

        void measure(int inStyle) {
            keep(inStyle, scaled(width, inStyle), scaled(height, inStyle), scaled(depth, inStyle));
        }
    }

    private static final class Space extends Part {
        private final int width;

        Space(int number, int aWidth) {
            super(number, SPACE, 0);
            width = aWidth;
        }

        void measure(int inStyle) {
            keep(inStyle, scaled(width, inStyle), 0, 0);
        }
    }

    private static final class Row extends Part {
        private final int[] classes = new int[MOST_IN_ROW];
        private final int[] gaps = new int[MOST_IN_ROW];

        Row(int number) {
            super(number, ROW, MOST_IN_ROW);
        }

        void append(Part p) {
            take(named, p);
            reckonClasses();
            reckonGaps();
        }

        /** Anew from the first one on, as what is put behind may make a JOINING one join. */
        private void reckonClasses() {
            int ahead = NONE;
            for (int i = 0; i < named && i < classes.length; i++) {
                classes[i] = PLAIN;
                if (isOtherThanSpace(i)) {
                    classes[i] = reckoned(toldClassOf(i), ahead, toldClassBehind(i));
                    ahead = classes[i];
                }
            }
        }

        private static int reckoned(int told, int ahead, int behind) {
            if (told != JOINING) {
                return told;
            }
            boolean isFirst = ahead == NONE || ahead == JOINING || ahead == RELATING
                    || ahead == OPENING || ahead == COMMA;
            boolean isLast = behind == NONE || behind == RELATING || behind == CLOSING || behind == COMMA;
            return isFirst || isLast ? PLAIN : JOINING;
        }

        private boolean isOtherThanSpace(int i) {
            Part p = partIn(i);
            return p != null && p.kind != SPACE;
        }

        private int toldClassOf(int i) {
            Part p = partIn(i);
            return p == null ? PLAIN : p.toldClass();
        }

        private int toldClassBehind(int place) {
            for (int i = place + 1; i < named; i++) {
                if (isOtherThanSpace(i)) {
                    return toldClassOf(i);
                }
            }
            return NONE;
        }

        int reckonedAt(int place) {
            return place >= 0 && place < classes.length ? classes[place] : PLAIN;
        }

        private void reckonGaps() {
            for (int i = 0; i < named && i < gaps.length; i++) {
                gaps[i] = 0;
                if (isOtherThanSpace(i) && i + 1 < named && isOtherThanSpace(i + 1)) {
                    gaps[i] = gapBetween(reckonedAt(i), reckonedAt(i + 1));
                }
            }
        }

        int gapBehind(int place, int inStyle) {
            if (place < 0 || place >= gaps.length || inStyle == SMALL || inStyle == TINY) {
                return 0;
            }
            return gaps[place];
        }

        private static int gapBetween(int first, int second) {
            if (first == RELATING || second == RELATING) {
                return first == second ? 0 : 278;
            }
            if (first == JOINING || second == JOINING) {
                return 222;
            }
            return first == COMMA ? 167 : 0;
        }

        boolean canEndLine(int place) {
            int its = reckonedAt(place);
            return isLast(place) || its == RELATING || its == JOINING || its == COMMA;
        }

        boolean isLast(int place) {
            return place == named - 1;
        }

        void measure(int inStyle) {
            long left = 0;
            long high = 0;
            long deep = 0;
            for (int i = 0; i < named; i++) {
                lay(i, left, 0);
                left += of(i, inStyle, WIDTH) + gapBehind(i, inStyle);
                high = Math.max(high, of(i, inStyle, HEIGHT));
                deep = Math.max(deep, of(i, inStyle, DEPTH));
            }
            keep(inStyle, left, high, deep);
        }
    }

    private static final class Fraction extends Part {
        Fraction(int number) {
            super(number, FRACTION, 2);
        }

        int styleIn(int slot, int inStyle) {
            return inStyle == SHOWN ? RUNNING : inStyle == RUNNING ? SMALL : TINY;
        }

        void measure(int inStyle) {
            long axis = scaled(250, inStyle);
            long clear = scaled(20, inStyle) + scaled(inStyle == SHOWN ? 120 : 60, inStyle);
            long wide = Math.max(of(0, inStyle, WIDTH), of(1, inStyle, WIDTH)) + scaled(240, inStyle);
            long up = axis + clear + of(0, inStyle, DEPTH);
            long down = clear + of(1, inStyle, HEIGHT) - axis;
            lay(0, (wide - of(0, inStyle, WIDTH)) / 2, up);
            lay(1, (wide - of(1, inStyle, WIDTH)) / 2, -down);
            keep(inStyle, wide, up + of(0, inStyle, HEIGHT), Math.max(0, down + of(1, inStyle, DEPTH)));
        }
    }

    private static final class Root extends Part {
        Root(int number) {
            super(number, ROOT, 2);
        }

        int styleIn(int slot, int inStyle) {
            return slot == 0 ? inStyle : TINY;
        }

        void measure(int inStyle) {
            long hook = scaled(300, inStyle);
            long left = Math.max(0, of(1, inStyle, WIDTH) - hook) + scaled(500, inStyle);
            long high = of(0, inStyle, HEIGHT) + scaled(120, inStyle);
            long deep = of(0, inStyle, DEPTH);
            long wide = left + of(0, inStyle, WIDTH);
            lay(0, left, 0);
            if (partIn(1) != null) {
                long up = (high + deep) * 60 / 100 - deep;
                lay(1, Math.max(0, hook - of(1, inStyle, WIDTH)), up);
                high = Math.max(high, up + of(1, inStyle, HEIGHT));
            }
            keep(inStyle, wide, high, deep);
        }
    }

    private static final class Scripts extends Part {
        Scripts(int number) {
            super(number, SCRIPTS, 3);
        }

        int styleIn(int slot, int inStyle) {
            if (slot == 0) {
                return inStyle;
            }
            return inStyle == SHOWN || inStyle == RUNNING ? SMALL : TINY;
        }

        void measure(int inStyle) {
            long base = of(0, inStyle, WIDTH);
            long down = Math.max(scaled(150, inStyle), of(0, inStyle, DEPTH) + scaled(100, inStyle));
            long up = raised(inStyle, down);
            long high = of(0, inStyle, HEIGHT);
            long deep = of(0, inStyle, DEPTH);
            lay(0, 0, 0);
            if (partIn(1) != null) {
                lay(1, base, up);
                high = Math.max(high, up + of(1, inStyle, HEIGHT));
                deep = Math.max(deep, of(1, inStyle, DEPTH) - up);
            }
            if (partIn(2) != null) {
                lay(2, base, -down);
                high = Math.max(high, of(2, inStyle, HEIGHT) - down);
                deep = Math.max(deep, down + of(2, inStyle, DEPTH));
            }
            long beside = Math.max(of(1, inStyle, WIDTH), of(2, inStyle, WIDTH));
            keep(inStyle, base + beside + scaled(50, inStyle), high, deep);
        }

        private long raised(int inStyle, long down) {
            long up = Math.max(scaled(400, inStyle), of(0, inStyle, HEIGHT) - scaled(200, inStyle));
            if (partIn(2) == null) {
                return up;
            }
            long underUpper = up - of(1, inStyle, DEPTH);
            long overLower = of(2, inStyle, HEIGHT) - down;
            return up + Math.max(0, scaled(160, inStyle) - (underUpper - overLower));
        }
    }

    private static final class Fence extends Part {
        private final boolean hasLeft;
        private final boolean hasRight;

        Fence(int number, boolean isLeft, boolean isRight) {
            super(number, FENCE, 1);
            hasLeft = isLeft;
            hasRight = isRight;
        }

        void measure(int inStyle) {
            long axis = scaled(250, inStyle);
            long side = scaled(400, inStyle);
            long reach = reach(inStyle, axis);
            long left = hasLeft ? side : 0;
            long right = hasRight ? side : 0;
            lay(0, left, 0);
            keep(inStyle, left + of(0, inStyle, WIDTH) + right,
                    Math.max(of(0, inStyle, HEIGHT), axis + reach),
                    Math.max(of(0, inStyle, DEPTH), reach - axis));
        }

        /** How far it goes up and down from the axis: whole steps, one at least. */
        private long reach(int inStyle, long axis) {
            long needed = Math.max(of(0, inStyle, HEIGHT) - axis, of(0, inStyle, DEPTH) + axis);
            long step = scaled(300, inStyle);
            if (step <= 0 || needed <= step) {
                return step;
            }
            return (needed + step - 1) / step * step;
        }
    }

    private static final class Matrix extends Part {
        private final int rows;
        private final int columns;
        // of the STYLE measured last: each column's WIDTH, each row's HEIGHT and DEPTH
        private final long[] widest = new long[MOST_ACROSS];
        private final long[] highest = new long[MOST_ACROSS];
        private final long[] deepest = new long[MOST_ACROSS];

        Matrix(int number, int itsRows, int itsColumns) {
            super(number, MATRIX, itsRows * itsColumns);
            rows = itsRows;
            columns = itsColumns;
        }

        int styleIn(int slot, int inStyle) {
            return inStyle == SHOWN ? RUNNING : inStyle;
        }

        void measure(int inStyle) {
            long wide = measureColumns(inStyle);
            long total = measureRows(inStyle);
            long high = total / 2 + scaled(250, inStyle);
            keep(inStyle, wide, high, Math.max(0, total - high));
            long up = high;
            for (int row = 0; row < rows && row < MOST_ACROSS; row++) {
                up -= highest[row];
                layRow(row, inStyle, up);
                up -= deepest[row] + scaled(300, inStyle);
            }
        }

        private long measureColumns(int inStyle) {
            long total = (columns - 1) * scaled(600, inStyle);
            for (int column = 0; column < columns && column < MOST_ACROSS; column++) {
                widest[column] = 0;
                for (int row = 0; row < rows; row++) {
                    int slot = row * columns + column;
                    widest[column] = Math.max(widest[column], of(slot, inStyle, WIDTH));
                }
                total += widest[column];
            }
            return total;
        }

        private long measureRows(int inStyle) {
            long total = (rows - 1) * scaled(300, inStyle);
            for (int row = 0; row < rows && row < MOST_ACROSS; row++) {
                highest[row] = 0;
                deepest[row] = 0;
                for (int column = 0; column < columns; column++) {
                    int slot = row * columns + column;
                    highest[row] = Math.max(highest[row], of(slot, inStyle, HEIGHT));
                    deepest[row] = Math.max(deepest[row], of(slot, inStyle, DEPTH));
                }
                total += highest[row] + deepest[row];
            }
            return total;
        }

        private void layRow(int row, int inStyle, long up) {
            long left = 0;
            for (int column = 0; column < columns && column < MOST_ACROSS; column++) {
                int slot = row * columns + column;
                lay(slot, left + (widest[column] - of(slot, inStyle, WIDTH)) / 2, up);
                left += widest[column] + scaled(600, inStyle);
            }
        }
    }

    private static final class Bar extends Part {
        Bar(int number) {
            super(number, BAR, 1);
        }

        void measure(int inStyle) {
            lay(0, 0, 0);
            keep(inStyle, of(0, inStyle, WIDTH), of(0, inStyle, HEIGHT) + scaled(120, inStyle),
                    of(0, inStyle, DEPTH));
        }
    }

    /**
     * The BEST way to break a ROW, found from its end: the best LINES from a place on
     * do not depend on those ahead of it.
     */
    private static final class Breaking {
        int lines;
        long sum;
        private final int[] partsOfLines = new int[MOST_IN_ROW];
        private final long[] widthsOfLines = new long[MOST_IN_ROW];
        // of the best way from a place on: its COST, its LINES, and its first one's end and WIDTH
        private final long[] costs = new long[MOST_IN_ROW + 1];
        private final int[] counts = new int[MOST_IN_ROW + 1];
        private final int[] ends = new int[MOST_IN_ROW];
        private final long[] widths = new long[MOST_IN_ROW];

        int partsOf(int index) {
            return index >= 0 && index < partsOfLines.length ? partsOfLines[index] : 0;
        }

        long widthOf(int index) {
            return index >= 0 && index < widthsOfLines.length ? widthsOfLines[index] : 0;
        }

        boolean hasWider(long room) {
            for (int i = 0; i < lines; i++) {
                if (widthOf(i) > room) {
                    return true;
                }
            }
            return false;
        }

        void breakBest(Row row, long room) {
            int n = Math.max(0, Math.min(row.named, MOST_IN_ROW));
            costs[n] = 0;
            counts[n] = 0;
            for (int start = n - 1; start >= 0; start--) {
                findFrom(start, n, row, room);
            }
            sum = costs[0];
            keepLines(n);
        }

        private void findFrom(int start, int n, Row row, long room) {
            if (start < 0 || start >= costs.length) {
                return;
            }
            costs[start] = NO_COST_YET;
            long width = 0;
            for (int i = start; i < n; i++) {
                width += row.of(i, RUNNING, WIDTH);
                if (row.canEndLine(i)) {
                    offer(start, i + 1, width, costOf(row, i, width, room));
                }
                width += row.gapBehind(i, RUNNING);
            }
        }

        /** Ends come in growing order, so that of equal ways the longer first LINE is taken. */
        private void offer(int start, int end, long width, long cost) {
            if (start < 0 || start >= ends.length || end < 0 || end >= costs.length) {
                return;
            }
            long whole = cost + costs[end];
            int itsLines = counts[end] + 1;
            if (whole < costs[start] || whole == costs[start] && itsLines <= counts[start]) {
                costs[start] = whole;
                counts[start] = itsLines;
                ends[start] = end;
                widths[start] = width;
            }
        }

        private static long costOf(Row row, int last, long width, long room) {
            long excess = width > room ? 1000000 + 1000 * (width - room) : 0;
            if (row.isLast(last)) {
                return excess;
            }
            long loose = width > room ? 0 : (room - width) * (room - width) / 1000;
            int behind = row.reckonedAt(last);
            return excess + loose + (behind == JOINING ? 200 : behind == COMMA ? 500 : 0);
        }

        private void keepLines(int n) {
            lines = 0;
            int start = 0;
            for (int i = 0; i < MOST_IN_ROW && start >= 0 && start < n && start < ends.length; i++) {
                partsOfLines[i] = ends[start] - start;
                widthsOfLines[i] = widths[start];
                lines++;
                start = ends[start];
            }
        }
    }
}
