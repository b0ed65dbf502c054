import java.io.IOException;
import java.nio.file.Files;
import java.nio.file.Path;
import java.util.ArrayList;
import java.util.List;

/** The example of README.md: its answers are due, and README.md has just these calls and answers. */
final class ReadmeTest {
    private static final String CALL = "Check.due(\"\", ";

    public static void main(String[] args) throws IOException {
        Check.test("README.md: the answers of the example");
        example();
        Check.test("README.md: the example is the one that is tested");
        Check.holds("the calls of README.md " + ofReadme() + " are " + ofThisTest(), ofReadme().equals(ofThisTest()));
        Check.end();
    }

    private static void example() {
        Ropewalk x = new Ropewalk();
        int a = x.sign(0, 500, 600, 100);
        int b = x.sign(0, 400, 500, 50);
        int f = x.fraction(a, b);
        int row = x.row();
        Check.due("", x.put(row, f), 1);
        Check.due("", x.put(row, x.sign(2, 700, 500, 0)), 2);
        Check.due("", x.put(row, x.sign(0, 300, 400, 0)), 3);
        Check.due("", x.top(row, 0), 6);
        Check.due("", x.size(f, 0, 0), 740);
        Check.due("", x.place(a, 1), 120);
        Check.due("", x.place(a, 2), 490);
        Check.due("", x.at(150, 490), 0);
        Check.due("", x.gap(row, 0), 278);
        Check.due("", x.breakRow(row, 2000), 2);
        Check.due("", x.line(0, 1), 1568);
        Check.due("", x.cost(), 186);
        Check.due("", x.roomFor(row, 1), 2146);
        Check.due("", x.widthWith(a, 900), 2696);
    }

    /** Each line of the example as a call, and behind it the answer, if one is told. */
    private static List<String> ofReadme() throws IOException {
        List<String> calls = new ArrayList<>();
        boolean isExample = false;
        for (String line : Files.readAllLines(Path.of("README.md"))) {
            if (line.startsWith("```")) {
                isExample = line.equals("```java");
            } else if (isExample) {
                String[] callAndComment = line.split(" *// ");
                String answer = callAndComment.length < 2 ? "" : callAndComment[1].split(":")[0];
                calls.add(callAndComment[0] + (answer.matches("-?[0-9]+") ? " " + answer : ""));
            }
        }
        return calls;
    }

    private static List<String> ofThisTest() throws IOException {
        List<String> calls = new ArrayList<>();
        boolean isExample = false;
        for (String line : Files.readAllLines(Path.of("src/test/java/ReadmeTest.java"))) {
            String its = line.trim();
            if (its.equals("private static void example() {")) {
                isExample = true;
            } else if (its.equals("}")) {
                isExample = false;
            } else if (isExample) {
                int comma = its.lastIndexOf(", ");
                calls.add(its.startsWith(CALL)
                        ? its.substring(CALL.length(), comma) + "; " + its.substring(comma + 2, its.length() - 2) : its);
            }
        }
        return calls;
    }
}
