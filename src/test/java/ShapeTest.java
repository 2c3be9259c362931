import java.io.IOException;
import java.nio.file.Files;
import java.nio.file.Path;
import java.util.LinkedHashMap;
import java.util.Map;
import java.util.Set;
import java.util.TreeSet;
import java.util.regex.Matcher;
import java.util.regex.Pattern;

/**
 * The rules of LANGUAGE.md on the shape of the methods, read off the source. Methods of the same name
 * count as one, which can only make the calls look deeper than they are.
 */
public final class ShapeTest {
    private static final Checks CHECKS = new Checks();
    private static final Path SOURCE = Path.of("src/main/java/HaltingDecider.java");
    private static final int MOST_LINES = 60;
    private static final int DEEPEST = 8;
    private static final Pattern METHOD = Pattern.compile("(?ms)^( +)(?:public |private |static )*"
            + "(?:\\w+(?:\\[\\])? )?(\\w+)\\([^;{}]*\\) \\{\n(.*?)^\\1\\}");
    private static final Pattern CALL = Pattern.compile("(\\w+)\\(");

    /** The bodies of the methods and constructors of each name. */
    private static final Map<String, String> BODIES = new LinkedHashMap<>();

    public static void main(String[] args) throws IOException {
        String code = Files.readString(SOURCE).replaceAll("(?s)/\\*.*?\\*/", "").replaceAll(" *//[^\n]*", "");
        Matcher method = METHOD.matcher(code);
        while (method.find()) {
            look(method.group(2), method.group(3));
            BODIES.merge(method.group(2), method.group(3), String::concat);
        }
        CHECKS.due("the methods are found", BODIES.size() > 60, true);
        for (String name : BODIES.keySet()) {
            int depth = depthOf(name, new TreeSet<>());
            CHECKS.due("rule 11: the calls of " + name + " go " + depth + " deep", depth <= DEEPEST, true);
        }
        CHECKS.finish();
    }

    private static void look(String name, String body) {
        int lines = body.split("\n").length;
        CHECKS.due("rule 11: " + name + " has " + lines + " lines", lines <= MOST_LINES, true);
        boolean isConstructor = Character.isUpperCase(name.charAt(0));
        CHECKS.due("rule 12: " + name + " makes an object", !isConstructor && body.contains("new "), false);
    }

    /** The most calls that stand open at once when the method runs, itself and the library included. */
    private static int depthOf(String name, Set<String> open) {
        CHECKS.due("rule 8: " + name + " calls itself", open.contains(name), false);
        if (open.contains(name) || !BODIES.containsKey(name)) {
            return 1;
        }
        open.add(name);
        int deepest = 0;
        Matcher call = CALL.matcher(BODIES.get(name));
        while (call.find()) {
            deepest = Math.max(deepest, depthOf(call.group(1), open));
        }
        open.remove(name);
        return 1 + deepest;
    }
}
