import java.io.IOException;
import java.nio.file.Files;
import java.nio.file.Path;
import java.util.ArrayList;
import java.util.List;
import java.util.regex.Matcher;
import java.util.regex.Pattern;

/**
 * Writes a test of what README.md says: that its calls answer what the comments behind them say, and
 * that the constants have the values of its table. The arguments are README.md and the test's file.
 */
public final class ReadmeExamples {
    private static final Pattern ANSWER =
            Pattern.compile("(\\S.*\\));\\s+// (-?\\d+|true|false)(?: = ([A-Z_]+))?(?:, .+)?");
    private static final Pattern TABLE_ROW = Pattern.compile("\\| `([A-Z_]+)` \\| (-?\\d+) \\|.*");
    /** What may stand in an example without an answer. */
    private static final Pattern FRAME = Pattern.compile(" .*|for \\(.*|}|HaltingDecider x = .*");

    private final StringBuilder source = new StringBuilder("public final class ReadmeExamplesTest {\n"
            + "private static final Checks CHECKS = new Checks();\n");
    private final List<String> methods = new ArrayList<>();
    private int answers = 0;

    public static void main(String[] args) throws IOException {
        List<String> lines = Files.readAllLines(Path.of(args[0]));
        Files.writeString(Path.of(args[1]), new ReadmeExamples().testOf(lines));
    }

    private String testOf(List<String> lines) {
        for (int i = 0; i < lines.size(); i++) {
            if (lines.get(i).equals("```java")) {
                int end = endOfBlock(lines, i + 1);
                addBlock(lines.subList(i + 1, end));
                i = end;
            }
        }
        addTable(lines);
        addMain();
        return source.append("}\n").toString();
    }

    private static int endOfBlock(List<String> lines, int start) {
        for (int i = start; i < lines.size(); i++) {
            if (lines.get(i).equals("```")) {
                return i;
            }
        }
        throw new IllegalArgumentException("a block of README.md has no end");
    }

    private void addBlock(List<String> block) {
        if (!block.isEmpty() && block.get(0).startsWith("static ")) {
            block.forEach(line -> source.append(line).append('\n'));
        } else {
            addExample(block);
        }
    }

    private void addExample(List<String> block) {
        int before = answers;
        beginMethod("example" + (methods.size() + 1));
        for (String line : block) {
            addLine(line);
        }
        source.append("}\n");
        if (answers == before) {
            throw new IllegalArgumentException("an example of README.md tells no answer: " + block);
        }
    }

    private void addLine(String line) {
        Matcher answer = ANSWER.matcher(line);
        if (FRAME.matcher(line).matches() && !line.contains("//")) {
            source.append(line).append('\n');
        } else if (answer.matches()) {
            addDue(answer.group(1), answer.group(1), answer.group(2));
            if (answer.group(3) != null) {
                addDue(answer.group(3), "HaltingDecider." + answer.group(3), answer.group(2));
            }
            answers++;
        } else {
            throw new IllegalArgumentException("a line of README.md tells no answer: " + line);
        }
    }

    private void addTable(List<String> lines) {
        beginMethod("table");
        for (String line : lines) {
            Matcher row = TABLE_ROW.matcher(line);
            if (row.matches()) {
                addDue(row.group(1), "HaltingDecider." + row.group(1), row.group(2));
            }
        }
        source.append("}\n");
    }

    private void beginMethod(String name) {
        methods.add(name);
        source.append("private static void ").append(name).append("() {\n");
    }

    private void addDue(String label, String expression, String answer) {
        String quoted = label.replace("\\", "\\\\").replace("\"", "\\\"");
        source.append("CHECKS.due(\"README.md: ").append(quoted).append("\", ").append(expression).append(", ");
        source.append(answer).append(");\n");
    }

    private void addMain() {
        source.append("public static void main(String[] args) {\n");
        methods.forEach(name -> source.append(name).append("();\n"));
        source.append("CHECKS.due(\"README.md: answers\", ").append(answers).append(" > 0, true);\n");
        source.append("CHECKS.finish();\n}\n");
    }
}
