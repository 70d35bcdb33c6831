import java.io.IOException;
import java.nio.file.Files;
import java.nio.file.Path;
import java.util.List;

/** The examples of the README give what they say, and the README has the very lines that are run here. */
public final class ReadmeTest {
    private static final Checks CHECKS = new Checks();

    public static void main(String[] args) throws IOException {
        theExamples();
        theLinesOfTheReadme();
        CHECKS.end();
    }

    private static void theExamples() {
        SpecifierDesk desk = new SpecifierDesk();
        desk.whole(-1234567L, 32);
        desk.write(0x7061697273L);
        desk.text();
        desk.write(0x252C64202553L);
        int fault = desk.layOut();
        StringBuilder result = new StringBuilder();
        for (int k = 0; k < desk.length(); k++) {
            result.append((char) desk.characterAt(k));
        }
        CHECKS.due("the first example's fault", fault, 0);
        CHECKS.due("the first example", result.toString(), "-1,234,567 PAIRS");

        desk.clear();
        CHECKS.due("the result behind clear", Checks.resultOf(desk), "-1,234,567 PAIRS");
        desk.size(true, 1L);
        desk.more(0L);
        desk.scale(3);
        desk.fraction(Double.doubleToLongBits(0.1), 1L, -1);
        desk.write(0x25282C2E32662025L);
        desk.write(0x61L);
        fault = desk.layOut();
        CHECKS.due("the second example's fault", fault, 0);
        CHECKS.due("the second example", Checks.resultOf(desk), "(18,446,744,073,709,551.62) 0x1.999999999999ap-4");
    }

    private static void theLinesOfTheReadme() throws IOException {
        List<String> own = Files.readAllLines(Path.of("src/test/java/ReadmeTest.java")).stream().map(String::strip).toList();
        boolean inside = false;
        int lines = 0;
        for (String line : Files.readAllLines(Path.of("README.md"))) {
            if (line.startsWith("```")) {
                inside = line.equals("```java");
            } else if (inside) {
                CHECKS.due("run here: " + line, own.contains(withoutComment(line)), true);
                lines++;
            }
        }
        CHECKS.due("lines of the README's examples", lines, 18);
    }

    private static String withoutComment(String line) {
        int comment = line.indexOf("//");
        return (comment < 0 ? line : line.substring(0, comment)).strip();
    }
}
