import java.io.IOException;
import java.lang.reflect.Field;
import java.lang.reflect.Method;
import java.lang.reflect.Modifier;
import java.nio.file.Files;
import java.nio.file.Path;
import java.util.Arrays;
import java.util.List;
import java.util.Set;
import java.util.TreeSet;
import java.util.regex.Matcher;
import java.util.regex.Pattern;

/** The public face of the document, and those rules of LANGUAGE.md that a program can look at. */
public final class FaceTest {
    private static final Checks CHECKS = new Checks();
    private static final Path SOURCE = Path.of("src/main/java/HaltingDecider.java");
    private static final Path README = Path.of("README.md");
    private static final List<String> METHODS = List.of("int setStates(int)", "int states()",
            "int setTransition(int, int, int, int, int)", "int removeTransition(int, int)", "int writes(int, int)",
            "int moves(int, int)", "int next(int, int)", "int type(int)", "int load()", "int textAt(int)",
            "int restart()", "int step(int)", "int time()", "int state()", "boolean halted()", "int head()",
            "int cell(int)", "int ones()", "int visited()", "int haltingTime(int)", "int cycleStart(int)",
            "int cycleLength(int)", "int driftPeriod(int)", "int driftOffset(int)", "int backwardDepth(int)",
            "int closedSet(int)", "int decide(int)");
    private static final String[] CONSTANTS = {"NO_SUCH_STATE=-1001", "OUT_OF_RANGE=-1002", "NO_TRANSITION=-1003",
        "HALTED=-1004", "NONE=-1005", "TEXT_FULL=-1006", "LEFT=0", "RIGHT=1", "HALT=9", "UNKNOWN=0", "HALTS=1",
        "CYCLES=2", "DRIFTS=3", "REFUTED=4", "CLOSED=5"};
    private static final String FORBIDDEN = "\\b(throw|throws|try|catch|finally|synchronized|assert|volatile|native|"
            + "package|protected|hashCode|toString|System\\.(?!arraycopy)|Thread|Random|\\w+Exact)\\b|->|::";

    public static void main(String[] args) throws Exception {
        face();
        constants();
        classesInside();
        staticFields();
        source();
        readme();
        CHECKS.finish();
    }

    private static void face() {
        Class<?> c = HaltingDecider.class;
        CHECKS.due("the class is public and final", c.getModifiers(), Modifier.PUBLIC | Modifier.FINAL);
        CHECKS.due("constructors", c.getDeclaredConstructors().length, 1);
        CHECKS.due("public constructors", c.getConstructors().length, 1);
        Set<String> found = new TreeSet<>();
        for (Method m : c.getDeclaredMethods()) {
            if (!Modifier.isPrivate(m.getModifiers())) {
                String parameters = Arrays.toString(m.getParameterTypes()).replace("[", "(").replace("]", ")");
                found.add(m.getReturnType() + " " + m.getName() + parameters);
                CHECKS.due(m.getName() + " is public alone", m.getModifiers(), Modifier.PUBLIC);
            }
        }
        CHECKS.due("methods " + found, found.equals(new TreeSet<>(METHODS)), true);
    }

    private static void constants() throws IllegalAccessException {
        Set<String> found = new TreeSet<>();
        for (Field f : HaltingDecider.class.getDeclaredFields()) {
            if (!Modifier.isPrivate(f.getModifiers())) {
                CHECKS.due(f.getName() + " is a public constant", f.getModifiers(),
                        Modifier.PUBLIC | Modifier.STATIC | Modifier.FINAL);
                found.add(f.getName() + "=" + f.getInt(null));
            }
        }
        CHECKS.due("constants " + found, found.equals(new TreeSet<>(List.of(CONSTANTS))), true);
    }

    private static void classesInside() {
        Class<?>[] inside = HaltingDecider.class.getDeclaredClasses();
        CHECKS.due("rule 11: at most twelve classes", inside.length + 1 <= 12, true);
        for (Class<?> c : inside) {
            CHECKS.due("rule 2: " + c.getName() + " is static", Modifier.isStatic(c.getModifiers()), true);
            CHECKS.due("rule 1: " + c.getName() + " is not public", Modifier.isPublic(c.getModifiers()), false);
            CHECKS.due("rule 2: " + c.getName() + " has no classes inside", c.getDeclaredClasses().length, 0);
            for (Method m : c.getDeclaredMethods()) {
                boolean isTaken = METHODS.stream().anyMatch(face -> face.contains(" " + m.getName() + "("));
                CHECKS.due("rule 1: " + m.getName() + " bears the name of a public method", isTaken, false);
                CHECKS.due("rule 11: " + m.getName() + " has few parameters", m.getParameterCount() <= 7, true);
            }
        }
    }

    private static void staticFields() {
        checkStaticFields(HaltingDecider.class);
        for (Class<?> c : HaltingDecider.class.getDeclaredClasses()) {
            checkStaticFields(c);
        }
    }

    private static void checkStaticFields(Class<?> c) {
        int objectFields = 0;
        for (Field f : c.getDeclaredFields()) {
            if (Modifier.isStatic(f.getModifiers())) {
                CHECKS.due("rule 5: " + f.getName() + " is final", Modifier.isFinal(f.getModifiers()), true);
                CHECKS.due("rule 5: " + f.getName() + " is an int", f.getType() == int.class, true);
            } else {
                objectFields++;
            }
        }
        CHECKS.due("rule 11: " + c.getName() + " has few fields", objectFields <= 20, true);
    }

    private static void source() throws IOException {
        String text = Files.readString(SOURCE);
        String code = text.replaceAll("(?s)/\\*.*?\\*/", "").replaceAll("//[^\n]*", "");
        Matcher matcher = Pattern.compile(FORBIDDEN).matcher(code);
        CHECKS.due("rule 6: a forbidden word" + (matcher.find() ? ": " + matcher.group() : ""), matcher.reset().find(), false);
        Matcher imports = Pattern.compile("import ([\\w.*]+);").matcher(code);
        while (imports.find()) {
            CHECKS.due("rule 4: import " + imports.group(1), imports.group(1).equals("java.util.Arrays"), true);
        }
        CHECKS.due("the source has plain signs", text.chars().allMatch(c -> c == '\n' || c >= 32 && c < 127), true);
    }

    private static void readme() throws IOException {
        String text = Files.readString(README);
        for (String method : METHODS) {
            String name = method.substring(method.indexOf(' ') + 1, method.indexOf('('));
            CHECKS.due("README.md lists " + name, text.contains("`" + name + "("), true);
        }
        for (String constant : CONSTANTS) {
            String row = "| `" + constant.replace("=", "` | ") + " |";
            CHECKS.due("README.md has the row " + row, text.contains(row), true);
        }
    }
}
