/** The five examples of the document. */
public final class ExamplesTest {
    private static final Checks CHECKS = new Checks();

    public static void main(String[] args) {
        halts();
        drifts();
        cycles();
        wrongText();
        errors();
        CHECKS.finish();
    }

    private static void typing(String example, HaltingDecider x, String text) {
        for (int i = 0; i < text.length(); i++) {
            CHECKS.due(example + ": type(" + (int) text.charAt(i) + ")", x.type(text.charAt(i)), i + 1);
        }
    }

    private static void halts() {
        HaltingDecider x = new HaltingDecider();
        typing("example 1", x, "1RB1LB_1LA1RZ");
        CHECKS.due("example 1: load()", x.load(), 2);
        CHECKS.due("example 1: haltingTime(200)", x.haltingTime(200), 6);
        CHECKS.due("example 1: step(1000)", x.step(1000), 6);
        CHECKS.due("example 1: ones()", x.ones(), 4);
        CHECKS.due("example 1: decide(200)", x.decide(200), 1);
    }

    private static void drifts() {
        HaltingDecider x = new HaltingDecider();
        CHECKS.due("example 2: setStates(1)", x.setStates(1), 2);
        CHECKS.due("example 2: setTransition(0, 0, 1, 1, 0)", x.setTransition(0, 0, 1, 1, 0), 0);
        CHECKS.due("example 2: decide(1)", x.decide(1), 3);
        CHECKS.due("example 2: driftPeriod(5)", x.driftPeriod(5), 1);
        CHECKS.due("example 2: driftOffset(5)", x.driftOffset(5), 1);
        CHECKS.due("example 2: closedSet(1)", x.closedSet(1), 2);
        CHECKS.due("example 2: backwardDepth(8)", x.backwardDepth(8), -1005);
    }

    private static void cycles() {
        HaltingDecider x = new HaltingDecider();
        CHECKS.due("example 3: setTransition(0, 0, 0, 1, 1)", x.setTransition(0, 0, 0, 1, 1), 0);
        CHECKS.due("example 3: setTransition(1, 0, 0, 0, 0)", x.setTransition(1, 0, 0, 0, 0), 0);
        CHECKS.due("example 3: cycleStart(200)", x.cycleStart(200), 0);
        CHECKS.due("example 3: cycleLength(200)", x.cycleLength(200), 2);
        CHECKS.due("example 3: cycleLength(1)", x.cycleLength(1), -1005);
        CHECKS.due("example 3: decide(2)", x.decide(2), 2);
    }

    private static void wrongText() {
        HaltingDecider x = new HaltingDecider();
        typing("example 4", x, "1RB0X");
        CHECKS.due("example 4: load()", x.load(), -5);
        CHECKS.due("example 4: textAt(0)", x.textAt(0), 45);
        CHECKS.due("example 4: states()", x.states(), 2);
    }

    private static void errors() {
        HaltingDecider x = new HaltingDecider();
        CHECKS.due("example 5: setTransition(0, 3, 0, 0, 5)", x.setTransition(0, 3, 0, 0, 5), -1001);
        CHECKS.due("example 5: setTransition(0, 3, 0, 0, 1)", x.setTransition(0, 3, 0, 0, 1), -1002);
        CHECKS.due("example 5: step(1)", x.step(1), -1004);
        CHECKS.due("example 5: haltingTime(1)", x.haltingTime(1), 0);
    }
}
