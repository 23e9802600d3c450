import java.io.IOException;
import java.nio.file.Files;
import java.nio.file.Path;
import java.util.List;

/** The examples of README.md: their lines stand here again, and answer what their comments there say. */
public final class ReadmeTest {
    private static final RelationStream x = new RelationStream();
    private static final StringBuilder lines = new StringBuilder();

    private ReadmeTest() {
    }

    private static void answers(String line, long got, long want) {
        lines.append(line).append(" // answers ").append(want).append('\n');
        Check.due(line, got, want);
    }

    private static void examples() {
        int what = x.place(0);
        int one = x.atom(1);
        int two = x.atom(2);
        int notOne = x.relate(false, what, one);
        int either = x.combine(false, x.relate(true, what, one), x.relate(true, what, two));
        x.ask(x.combine(true, notOne, either));
        answers("x.run(200, true);", x.run(200, true), 5);
        answers("x.text(0, 0, 0);", x.text(0, 0, 0), 2);
        answers("x.text(0, 0, 1);", x.text(0, 0, 1), -1);
        answers("x.conditions(0);", x.conditions(0), 0);
        answers("x.run(200, true);", x.run(200, true), 0);
        answers("x.status();", x.status(), 2);
        answers("x.count(0);", x.count(0), 1);
        x.ask(notOne);
        answers("x.run(1, true);", x.run(1, true), 1);
        answers("x.text(0, 0, 0);", x.text(0, 0, 0), 20);
        answers("x.conditions(0);", x.conditions(0), 1);
        answers("x.text(0, 1, 0);", x.text(0, 1, 0), 20);
        answers("x.text(0, 2, 0);", x.text(0, 2, 0), 1);
        int head = x.place(3);
        int rest = x.place(4);
        int longer = x.combine(true, x.relate(true, what, x.pair(head, rest)), x.call(0, rest, one, one));
        x.define(0, x.combine(false, x.relate(true, what, one), longer));
        x.ask(x.call(0, what, one, one));
        answers("x.run(200, true);", x.run(200, true), 3);
        answers("x.text(0, 0, 0);", x.text(0, 0, 0), 1);
        answers("x.run(200, true);", x.run(200, true), 5);
        answers("x.text(1, 0, 0);", x.text(1, 0, 0), 10);
        answers("x.text(1, 0, 1);", x.text(1, 0, 1), 20);
        answers("x.text(1, 0, 2);", x.text(1, 0, 2), 1);
        answers("x.run(200, false);", x.run(200, false), 94);
        answers("x.status();", x.status(), 3);
    }

    /** The lines of the examples stand in README.md in the same order: those that answer with their answers. */
    private static void sameLines() throws IOException {
        List<String> here = Files.readAllLines(Path.of("src/test/java/ReadmeTest.java"));
        StringBuilder told = new StringBuilder();
        boolean isCode = false;
        int next = 0;
        for (String line : Files.readAllLines(Path.of("README.md"))) {
            String code = line.replaceFirst(" *//.*", "");
            if (line.startsWith("```")) {
                isCode = line.equals("```java");
            } else if (isCode && line.contains("// answers ")) {
                told.append(line.replaceFirst(" *// answers (-?[0-9]+).*", " // answers $1")).append('\n');
            } else if (isCode) {
                while (next < here.size() && !here.get(next).endsWith(code)) {
                    next++;
                }
                Check.due("here stands, in its turn, " + code, next < here.size() ? 1 : 0, 1);
            }
        }
        Check.due("README.md tells\n" + told + "due is\n" + lines, told.compareTo(lines), 0);
    }

    public static void main(String[] args) throws IOException {
        Check.about("README.md");
        examples();
        sameLines();
        Check.end();
    }
}
