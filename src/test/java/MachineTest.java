/** Promises 1 to 8: a new object, the states and the transitions. */
public final class MachineTest {
    private static final Checks CHECKS = new Checks();
    private static final int NO_SUCH_STATE = -1001;
    private static final int OUT_OF_RANGE = -1002;
    private static final int NO_TRANSITION = -1003;
    private static final int[] FAR = {Integer.MIN_VALUE, -1000, -2, -1, 6, 8, 9, 10, 1000, Integer.MAX_VALUE};

    public static void main(String[] args) {
        newObject();
        setStates();
        setStatesForgets();
        setTransition();
        setTransitionErrors();
        errorsChangeNothing();
        removeTransition();
        readers();
        readerErrors();
        objectsAreApart();
        CHECKS.finish();
    }

    private static void newObject() {
        HaltingDecider x = new HaltingDecider();
        CHECKS.due("1: states()", x.states(), 2);
        CHECKS.due("1: text is ------_------", Checks.textOf(x).equals("------_------"), true);
        CHECKS.due("1: time()", x.time(), 0);
        CHECKS.due("1: state()", x.state(), 0);
        CHECKS.due("1: head()", x.head(), 0);
        CHECKS.due("1: ones()", x.ones(), 0);
        CHECKS.due("1: visited()", x.visited(), 1);
        CHECKS.due("1: cell(0)", x.cell(0), 0);
        CHECKS.due("1: halted()", x.halted(), true);
        CHECKS.due("1: type(49)", x.type(49), 1);
    }

    private static void setStates() {
        HaltingDecider x = new HaltingDecider();
        int[] counts = {1, 5, 4, 3, 3, 2, 5, 1};
        int before = 2;
        for (int count : counts) {
            CHECKS.due("2: setStates(" + count + ")", x.setStates(count), before);
            CHECKS.due("3: states()", x.states(), count);
            CHECKS.due("4: next is the last state", x.setTransition(count - 1, 1, 0, 0, count - 1), 0);
            CHECKS.due("4: state after the last", x.setTransition(count, 0, 0, 0, 0), NO_SUCH_STATE);
            before = count;
        }
        for (int count : FAR) {
            CHECKS.due("2: setStates(" + count + ")", x.setStates(count), OUT_OF_RANGE);
        }
        CHECKS.due("2: setStates(0)", x.setStates(0), OUT_OF_RANGE);
        CHECKS.due("3: states() after errors", x.states(), 1);
    }

    private static void setStatesForgets() {
        HaltingDecider x = Checks.machine("1RB1LB_1LA1RZ");
        x.step(3);
        CHECKS.due("2: setStates(2)", x.setStates(2), 2);
        CHECKS.due("2: transitions are removed", Checks.textOf(x).equals("------_------"), true);
        CHECKS.due("2: the start is current", x.time() + x.ones() + x.state() + Math.abs(x.head()), 0);
        CHECKS.due("2: visited()", x.visited(), 1);
        x = Checks.machine("---1LA_1RB0LA_1LC1RZ_0RD0RE_1RE1LD");
        x.setStates(1);
        x.setStates(5);
        CHECKS.due("2: rows that were hidden are empty too",
                Checks.textOf(x).equals("------_------_------_------_------"), true);
    }

    private static void setTransition() {
        HaltingDecider x = new HaltingDecider();
        CHECKS.due("4: first", x.setTransition(0, 0, 1, 1, 1), 0);
        CHECKS.due("4: again", x.setTransition(0, 0, 1, 1, 1), 1);
        CHECKS.due("4: other symbol", x.setTransition(0, 1, 0, 0, 9), 0);
        CHECKS.due("4: other state", x.setTransition(1, 0, 1, 0, 0), 0);
        CHECKS.due("4: replaced", x.setTransition(0, 1, 1, 1, 0), 1);
        CHECKS.due("4: the machine", Checks.textOf(x).equals("1RB1RA_1LA---"), true);
        x.step(2);
        CHECKS.due("4: time() before", x.time(), 2);
        CHECKS.due("4: replaced after steps", x.setTransition(0, 1, 1, 1, 9), 1);
        CHECKS.due("4: the start is current", x.time() + x.ones() + x.state() + Math.abs(x.head()), 0);
        CHECKS.due("4: visited()", x.visited(), 1);
    }

    private static void setTransitionErrors() {
        HaltingDecider x = new HaltingDecider();
        for (int far : FAR) {
            CHECKS.due("4: state " + far, x.setTransition(far, 0, 0, 0, 0), NO_SUCH_STATE);
            CHECKS.due("4: state " + far + ", symbol 7", x.setTransition(far, 7, 0, 0, 0), NO_SUCH_STATE);
            CHECKS.due("4: next " + far, x.setTransition(0, 0, 0, 0, far), far == 9 ? 0 : NO_SUCH_STATE);
            CHECKS.due("4: next " + far + ", move 7", x.setTransition(1, 0, 0, 7, far),
                    far == 9 ? OUT_OF_RANGE : NO_SUCH_STATE);
            CHECKS.due("4: symbol " + far, x.setTransition(0, far, 0, 0, 0), OUT_OF_RANGE);
            CHECKS.due("4: write " + far, x.setTransition(0, 0, far, 0, 0), OUT_OF_RANGE);
            CHECKS.due("4: move " + far, x.setTransition(0, 0, 0, far, 0), OUT_OF_RANGE);
        }
        CHECKS.due("4: state 2 of 2", x.setTransition(2, 0, 0, 0, 0), NO_SUCH_STATE);
        CHECKS.due("4: next 2 of 2", x.setTransition(0, 0, 0, 0, 2), NO_SUCH_STATE);
        CHECKS.due("4: symbol 2", x.setTransition(0, 2, 0, 0, 0), OUT_OF_RANGE);
        CHECKS.due("4: write 2", x.setTransition(0, 0, 2, 0, 0), OUT_OF_RANGE);
        CHECKS.due("4: move 2", x.setTransition(0, 0, 0, 2, 0), OUT_OF_RANGE);
    }

    private static void errorsChangeNothing() {
        HaltingDecider x = Checks.machine("1RB1LB_1LA1RB");
        x.step(4);
        int head = x.head();
        x.setStates(0);
        x.setStates(6);
        x.setTransition(2, 0, 0, 0, 0);
        x.setTransition(0, 0, 0, 0, 5);
        x.setTransition(0, 0, 2, 0, 0);
        x.setTransition(0, 0, 0, -1, 0);
        x.removeTransition(2, 0);
        x.removeTransition(0, 2);
        CHECKS.due("4: the machine stays", Checks.textOf(x).equals("1RB1LB_1LA1RB"), true);
        CHECKS.due("4: time() stays", x.time(), 4);
        CHECKS.due("4: head() stays", x.head(), head);
    }

    private static void removeTransition() {
        HaltingDecider x = Checks.machine("1RB1LB_1LA1RZ");
        x.step(2);
        CHECKS.due("5: state 2", x.removeTransition(2, 0), NO_SUCH_STATE);
        CHECKS.due("5: state 2, symbol 2", x.removeTransition(2, 2), NO_SUCH_STATE);
        CHECKS.due("5: state -1, symbol -1", x.removeTransition(-1, -1), NO_SUCH_STATE);
        CHECKS.due("5: symbol 2", x.removeTransition(1, 2), OUT_OF_RANGE);
        CHECKS.due("5: symbol -1", x.removeTransition(0, -1), OUT_OF_RANGE);
        CHECKS.due("5: time() after errors", x.time(), 2);
        CHECKS.due("5: removeTransition(1, 1)", x.removeTransition(1, 1), 1);
        CHECKS.due("5: the start is current", x.time() + x.ones() + x.state() + Math.abs(x.head()), 0);
        CHECKS.due("5: the machine", Checks.textOf(x).equals("1RB1LB_1LA---"), true);
        x.step(2);
        CHECKS.due("5: again", x.removeTransition(1, 1), NO_TRANSITION);
        CHECKS.due("5: time() after no transition", x.time(), 2);
        CHECKS.due("5: set anew", x.setTransition(1, 1, 0, 1, 1), 0);
    }

    private static void readers() {
        HaltingDecider x = Checks.machine("1RB0LC_0RZ1LA_---1RE_0LD1RZ_1LA0RB");
        String[] rows = Checks.textOf(x).split("_");
        for (int state = 0; state < 5; state++) {
            for (int symbol = 0; symbol < 2; symbol++) {
                String entry = rows[state].substring(3 * symbol, 3 * symbol + 3);
                boolean isThere = entry.charAt(0) != '-';
                String at = "(" + state + ", " + symbol + ")";
                CHECKS.due("6: writes" + at, x.writes(state, symbol), isThere ? entry.charAt(0) - '0' : NO_TRANSITION);
                CHECKS.due("7: moves" + at, x.moves(state, symbol),
                        isThere ? (entry.charAt(1) == 'R' ? 1 : 0) : NO_TRANSITION);
                CHECKS.due("8: next" + at, x.next(state, symbol),
                        isThere ? (entry.charAt(2) == 'Z' ? 9 : entry.charAt(2) - 'A') : NO_TRANSITION);
            }
        }
        x.step(1);
        x.writes(0, 0);
        x.moves(0, 0);
        x.next(0, 0);
        CHECKS.due("6: reading changes nothing", x.time(), 1);
    }

    private static void readerErrors() {
        HaltingDecider x = Checks.machine("1RB1LB_1LA1RZ");
        for (int far : FAR) {
            CHECKS.due("6: state " + far, x.writes(far, far), NO_SUCH_STATE);
            CHECKS.due("7: state " + far, x.moves(far, far), NO_SUCH_STATE);
            CHECKS.due("8: state " + far, x.next(far, far), NO_SUCH_STATE);
            CHECKS.due("6: symbol " + far, x.writes(0, far), OUT_OF_RANGE);
            CHECKS.due("7: symbol " + far, x.moves(0, far), OUT_OF_RANGE);
            CHECKS.due("8: symbol " + far, x.next(0, far), OUT_OF_RANGE);
        }
        CHECKS.due("6: symbol 2", x.writes(1, 2), OUT_OF_RANGE);
        CHECKS.due("7: symbol 2", x.moves(1, 2), OUT_OF_RANGE);
        CHECKS.due("8: symbol 2", x.next(1, 2), OUT_OF_RANGE);
        CHECKS.due("6: state 2", x.writes(2, 0), NO_SUCH_STATE);
        CHECKS.due("7: state 2", x.moves(2, 0), NO_SUCH_STATE);
        CHECKS.due("8: state 2", x.next(2, 0), NO_SUCH_STATE);
    }

    private static void objectsAreApart() {
        HaltingDecider x = Checks.machine("1RA---");
        HaltingDecider y = new HaltingDecider();
        x.step(5);
        x.type(49);
        CHECKS.due("1: other object's states()", y.states(), 2);
        CHECKS.due("1: other object's time()", y.time(), 0);
        CHECKS.due("1: other object's text", y.type(49), 1);
    }
}
