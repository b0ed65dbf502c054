import java.math.BigInteger;

/** Promise 29: d becomes d * 31 + x, which wraps around as a 64-bit integer. */
final class ChecksumTest {
    private static final BigInteger TWO_TO_64 = BigInteger.ONE.shiftLeft(64);

    private static BigInteger d;

    public static void main(String[] args) {
        newObject();
        wrapsAround();
        negativeNumbers();
        rowsAndLines();
        changesNothing();
        Check.end();
    }

    private static void begin() {
        d = BigInteger.valueOf(58074);
    }

    private static void add(long... numbers) {
        for (long x : numbers) {
            d = d.multiply(BigInteger.valueOf(31)).add(BigInteger.valueOf(x));
        }
    }

    /** What is left of d in 64 bits, the first of which is the sign. */
    private static long wrapped() {
        BigInteger rest = d.mod(TWO_TO_64);
        return (rest.testBit(63) ? rest.subtract(TWO_TO_64) : rest).longValueExact();
    }

    private static boolean isBeyondLong() {
        return d.bitLength() > 63;
    }

    private static void newObject() {
        Check.test("digest: of a new object, three numbers of 0");
        begin();
        add(0, 0, 0);
        Check.holds("it does not wrap around yet", !isBeyondLong());
        Check.due("digest()", new Ropewalk().digest(), wrapped());
        Check.due("digest()", new Ropewalk().digest(), 1730082534L);
    }

    private static void wrapsAround() {
        Check.test("digest: wraps around as a 64-bit integer");
        int below = 0;
        int above = 0;
        for (int width = 0; width <= 2000; width += 125) {
            Ropewalk x = new Ropewalk();
            x.sign(0, width, 600, 100);
            begin();
            add(1, 0, -1, 0, width, 600, 100, width * 7 / 10, 420, 70, 0, 0);
            Check.holds("it is beyond a long", isBeyondLong());
            Check.due("digest() with the width " + width, x.digest(), wrapped());
            x.top(0, 1);
            begin();
            add(1, 0, -1, 0, width, 600, 100, width * 7 / 10, 420, 70, 1, 0, 0, width, 600, 100, 0, 0);
            Check.due("digest() with a TOP", x.digest(), wrapped());
            below += x.digest() < 0 ? 1 : 0;
            above += x.digest() > 0 ? 1 : 0;
        }
        Check.holds("some are below 0", below > 0);
        Check.holds("some are above 0", above > 0);
        Check.test("digest: of 60 PARTS");
        Ropewalk full = Check.full();
        begin();
        add(60);
        for (int i = 0; i < 60; i++) {
            add(0, -1, 0, 100, 100, 100, 70, 70, 70);
        }
        add(0, 0);
        Check.due("digest()", full.digest(), wrapped());
    }

    private static void negativeNumbers() {
        Check.test("digest: numbers below 0, and PARTS that are not in the TOP");
        Ropewalk x = new Ropewalk();
        int a = x.sign(0, 500, 600, 100);
        int b = x.sign(0, 400, 500, 50);
        x.space(30);
        x.top(x.fraction(a, b), 0);
        begin();
        add(4);
        add(0, 3, 0, 500, 600, 100, 350, 420, 70, 1, 120, 490, 500, 600, 100);
        add(0, 3, 0, 400, 500, 50, 280, 350, 35, 1, 170, -390, 400, 500, 50);
        add(1, -1, 0, 30, 0, 0, 21, 0, 0);
        add(3, -1, 2, 740, 1090, 440, 418, 581, 156, 0, 0, 0, 740, 1090, 440);
        add(0, 0);
        Check.due("digest()", x.digest(), wrapped());
    }

    private static void rowsAndLines() {
        Check.test("digest: ROW by ROW, and the LINES that are kept");
        Ropewalk x = new Ropewalk();
        int empty = x.row();
        int row = Check.rowOf(x, 0, 1500, 2, 500, 0, 1600);
        begin();
        add(5);
        add(2, -1, 0, 0, 0, 0, 0, 0, 0);
        add(2, -1, 3, 4156, 0, 0, 2520, 0, 0);
        add(0, row, 0, 1500, 0, 0, 1050, 0, 0);
        add(0, row, 0, 500, 0, 0, 350, 0, 0);
        add(0, row, 0, 1600, 0, 0, 1120, 0, 0);
        add(0, 1);
        add(0, 278, 2, 278, 0, 0, 2, 2278);
        BigInteger ahead = d;
        add(0, 0);
        Check.due("digest() without LINES", x.digest(), wrapped());
        x.breakRow(row, 2300);
        d = ahead;
        add(2, 2, 2278, 1, 1600, 0);
        Check.due("digest() with two LINES", x.digest(), wrapped());
        x.breakRow(row, 4000);
        d = ahead;
        add(2, 2, 2278, 1, 1600, 1722L * 1722L / 1000);
        Check.due("digest() with a loose LINE", x.digest(), wrapped());
        x.breakRow(empty, 1);
        d = ahead;
        add(0, 0);
        Check.due("digest() without LINES again", x.digest(), wrapped());
    }

    private static void changesNothing() {
        Check.test("digest: changes nothing, and is the same again");
        Ropewalk x = Scene.FURNISHED.made();
        long first = x.digest();
        Check.due("digest() again", x.digest(), first);
        Check.due("digest() of another one that is made by the same calls", Scene.FURNISHED.made().digest(), first);
        Check.holds("all answers as before", Scene.FURNISHED.answersBehind("digest").equals(Scene.FURNISHED.answers()));
    }
}
