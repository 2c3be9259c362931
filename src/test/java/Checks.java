/** Counts the answers that are not as due, and ends a test with exit code 1 if there was one. */
final class Checks {
    private static final int MOST_PRINTED = 40;

    private int answers = 0;
    private int wrong = 0;

    void due(String call, long got, long want) {
        answers++;
        if (got != want) {
            wrong++;
            if (wrong <= MOST_PRINTED) {
                System.out.println(call + " answered " + got + ", due is " + want);
            }
        }
    }

    void due(String call, boolean got, boolean want) {
        due(call, got ? 1 : 0, want ? 1 : 0);
    }

    boolean anyWrong() {
        return wrong > 0;
    }

    void finish() {
        System.out.println(answers + " answers, " + wrong + " of them wrong");
        if (wrong > 0 || answers == 0) {
            System.exit(1);
        }
    }

    /** Types a text into an object, without loading it. */
    static void typeAll(HaltingDecider x, String text) {
        for (int i = 0; i < text.length(); i++) {
            x.type(text.charAt(i));
        }
    }

    /** Types a text into an object and loads it; the answer is that of load. */
    static int loadText(HaltingDecider x, String text) {
        typeAll(x, text);
        return x.load();
    }

    /** A new object with the machine of a text, which must be correct. */
    static HaltingDecider machine(String text) {
        HaltingDecider x = new HaltingDecider();
        int states = loadText(x, text);
        if (states < 1) {
            throw new IllegalArgumentException("the test's own text is wrong: " + text);
        }
        return x;
    }

    /** The text of the object's machine, by textAt. */
    static String textOf(HaltingDecider x) {
        StringBuilder text = new StringBuilder();
        for (int i = 0; x.textAt(i) != HaltingDecider.NONE && i < 100; i++) {
            text.append((char) x.textAt(i));
        }
        return text.toString();
    }
}
