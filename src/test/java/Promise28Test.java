/** Promise 28: density. */
final class Promise28Test {
    public static void main(String[] args) {
        Ropewalk x = new Ropewalk();
        int a = x.sign(0, 500, 600, 100);
        int b = x.sign(0, 400, 500, 50);
        x.sign(0, 2000, 1, 1);
        int f = x.fraction(a, b);
        Check.dueDouble("no TOP", x.density(), 0);
        x.top(f, 0);
        Check.dueDouble("in STYLE 0", x.density(), 900.0 / 740.0);
        x.top(f, 1);
        Check.dueDouble("in STYLE 1", x.density(), 630.0 / 590.0);
        x.top(f, 3);
        Check.dueDouble("in STYLE 3", x.density(), 450.0 / 370.0);
        int row = x.row();
        x.top(row, 0);
        Check.dueDouble("WIDTH 0", x.density(), 0);
        x.put(row, x.space(100));
        Check.dueDouble("a SPACE alone", x.density(), 0);
        x.put(row, f);
        Check.dueDouble("with a SPACE", x.density(), 900.0 / 840.0);
        x.resize(a, 1, 1, 1);
        Check.dueDouble("with a smaller SIGN", x.density(), 401.0 / 740.0);
        Check.end();
    }
}
