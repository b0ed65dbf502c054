/** Promise 14: parts. */
final class Promise14Test {
    public static void main(String[] args) {
        Ropewalk x = new Ropewalk();
        x.sign(0, 1, 1, 1);
        Check.due("with a SIGN", x.parts(), 1);
        x.space(1);
        Check.due("with a SPACE", x.parts(), 2);
        x.row();
        Check.due("with a ROW", x.parts(), 3);
        x.put(2, 0);
        Check.due("behind put()", x.parts(), 3);
        x.fraction(1, 2);
        x.root(3, -1);
        x.scripts(4, x.sign(0, 1, 1, 1), -1);
        x.fence(6, true, true);
        x.bar(7);
        x.matrix(2, 2);
        Check.due("with one of each", x.parts(), 10);
        x.fit(9, 0, 8);
        x.top(9, 0);
        x.resize(0, 2, 2, 2);
        x.breakRow(2, 5);
        Check.due("behind what adds none", x.parts(), 10);
        Check.badState("a used one", x, () -> x.bar(0));
        Check.due("behind a refusal", x.parts(), 10);
        Check.due("of a full one", Check.full().parts(), 60);
        Check.end();
    }
}
