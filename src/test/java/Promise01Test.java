/** Promise 1: a new object. */
final class Promise01Test {
    public static void main(String[] args) {
        Ropewalk x = new Ropewalk();
        Check.due("parts()", x.parts(), 0);
        Check.due("at(0, 0)", x.at(0, 0), -1);
        Check.due("cost()", x.cost(), 0);
        Check.dueDouble("density()", x.density(), 0);
        Check.due("digest()", x.digest(), 58074L * 31 * 31 * 31);
        Check.noPart("ofPart(0, 0)", x, () -> x.ofPart(0, 0));
        Check.noPart("line(0, 0)", x, () -> x.line(0, 0));
        Check.noPart("top(0, 0)", x, () -> x.top(0, 0));

        Ropewalk other = new Ropewalk();
        other.sign(0, 1, 1, 1);
        other.top(0, 0);
        Check.due("parts() of the one", x.parts(), 0);
        Check.due("parts() of the other", other.parts(), 1);
        Check.due("sign() of the one", x.sign(0, 1, 1, 1), 0);
        Check.due("at() of the one", x.at(0, 0), -1);
        Check.end();
    }
}
