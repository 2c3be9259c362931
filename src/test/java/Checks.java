/** Counts the answers that are not as due, and ends a test with exit code 1 if there was one. */
final class Checks {
    private static final int MOST_PRINTED = 40;

    private int answers = 0;
    private int wrong = 0;

    void due(String call, long got, long want) {
        judge(got == want, call, Long.toString(got), Long.toString(want));
    }

    void due(String call, String got, String want) {
        judge(got.equals(want), call, got, want);
    }

    void due(String call, boolean got, boolean want) {
        due(call, got ? 1 : 0, want ? 1 : 0);
    }

    private void judge(boolean isRight, String call, String got, String want) {
        answers++;
        if (!isRight) {
            wrong++;
            if (wrong <= MOST_PRINTED) {
                System.out.println(call + " answered " + got + ", due is " + want);
            }
        }
    }

    int answers() {
        return answers;
    }

    boolean anyWrong() {
        return wrong > 0;
    }

    void finish() {
        System.out.println(answers + " answers, " + wrong + " of them wrong");
        if (wrong > 0 || answers == 0) {
            System.exit(1);
        }
    }

    /** Types a text into an object, without loading it. */
    static void typeAll(HaltingDecider x, String text) {
        for (int i = 0; i < text.length(); i++) {
            x.type(text.charAt(i));
        }
    }

    /** Types a text into an object and loads it; the answer is that of load. */
    static int loadText(HaltingDecider x, String text) {
        typeAll(x, text);
        return x.load();
    }

    /** A new object with the machine of a text, which must be correct. */
    static HaltingDecider machine(String text) {
        HaltingDecider x = new HaltingDecider();
        int states = loadText(x, text);
        if (states < 1) {
            throw new IllegalArgumentException("the test's own text is wrong: " + text);
        }
        return x;
    }

    /** The text of the object's machine, by textAt; it takes 35 calls at most. */
    static String textOf(HaltingDecider x) {
        StringBuilder text = new StringBuilder();
        for (int i = 0; i < 100; i++) {
            int code = x.textAt(i);
            if (code == HaltingDecider.NONE) {
                break;
            }
            text.append((char) code);
        }
        return text.toString();
    }

    /**
     * What the calls that show the state answer, but for the typed text, which no call shows; it takes
     * 100 calls at most.
     */
    static String faceOf(HaltingDecider x) {
        // The run comes first, so that a later look that changes it by mistake is not made on both of two twins.
        int head = x.head();
        StringBuilder face = new StringBuilder("head ").append(head).append(" time ").append(x.time());
        face.append(" state ").append(x.state()).append(" halted ").append(x.halted());
        face.append(" ones ").append(x.ones()).append(" visited ").append(x.visited()).append(" cells ");
        for (int position = head - 12; position <= head + 12; position++) {
            face.append(x.cell(position));
        }
        face.append(" states ").append(x.states()).append(" machine ").append(textOf(x)).append(" transitions");
        for (int state = 0; state < 5; state++) {
            for (int symbol = 0; symbol <= 1; symbol++) {
                face.append(' ').append(x.writes(state, symbol)).append(' ').append(x.moves(state, symbol));
                face.append(' ').append(x.next(state, symbol));
            }
        }
        return face.toString();
    }

    /** Makes steps, as many calls as they take; the machine must not halt before them. */
    static void stepTo(HaltingDecider x, int time) {
        while (x.time() < time) {
            int made = x.step(Math.min(1000, time - x.time()));
            if (made < 1) {
                throw new IllegalArgumentException("the test's own machine does not come to time " + time);
            }
        }
    }
}
