/**
 * Promises 1 to 8, and MACHINE of the description: each sentence that names a boundary has a method
 * of its own, with the last value that is taken and the first that is refused.
 */
public final class BoundaryMachineTest {
    private static final Checks CHECKS = new Checks();
    private static final int NO_SUCH_STATE = -1001;
    private static final int OUT_OF_RANGE = -1002;
    private static final int NO_TRANSITION = -1003;
    private static final int MIN = Integer.MIN_VALUE;
    private static final int MAX = Integer.MAX_VALUE;
    /** The values next to 0 and 1, the ends of int, and those that a byte or a bit would wrap to 0 or 1. */
    private static final int[] NO_SYMBOLS = {MIN, MIN + 1, -256, -2, -1, 2, 3, 256, 257, 65536, 65537, MAX - 1, MAX};
    private static final String START = "time 0 state 0 head 0 ones 0 visited 1 cells 00000";

    public static void main(String[] args) {
        newObjectHasTwoStates();
        newObjectHasNoTransitions();
        newObjectHasEmptyText();
        newObjectIsAtTheStart();
        oneToFiveStates();
        previousNumberOfStates();
        setStatesRemovesAllTransitions();
        setStatesMakesTheStartCurrent();
        setStatesKeepsTheTypedText();
        setTransitionState();
        setTransitionNext();
        setTransitionOtherArguments();
        statesAreCheckedFirst();
        setTransitionTellsWhetherThereWasOne();
        setTransitionMakesTheStartCurrent();
        removeTransitionErrors();
        removeTransitionInTheirOrder();
        removeTransitionToTheLast();
        removeTransitionMakesTheStartCurrent();
        readersAnswerEveryValue();
        readersRefuse();
        CHECKS.finish();
    }

    private static String positionOf(HaltingDecider x) {
        StringBuilder text = new StringBuilder("time " + x.time() + " state " + x.state() + " head " + x.head());
        text.append(" ones ").append(x.ones()).append(" visited ").append(x.visited()).append(" cells ");
        for (int position = -2; position <= 2; position++) {
            text.append(x.cell(position));
        }
        return text.toString();
    }

    /** The text of a machine without transitions. */
    private static String emptyText(int count) {
        return "_------".repeat(count).substring(1);
    }

    private static HaltingDecider withStates(int count) {
        HaltingDecider x = new HaltingDecider();
        x.setStates(count);
        return x;
    }

    // Promise 1: "Two states, no transitions, empty text; the current configuration is the start
    // configuration."

    private static void newObjectHasTwoStates() {
        HaltingDecider x = new HaltingDecider();
        CHECKS.due("1: states()", x.states(), 2);
        CHECKS.due("1: setTransition(1, 0, 0, 0, 1)", x.setTransition(1, 0, 0, 0, 1), 0);
        CHECKS.due("1: setTransition(2, 0, 0, 0, 0)", x.setTransition(2, 0, 0, 0, 0), NO_SUCH_STATE);
        CHECKS.due("1: setTransition(0, 0, 0, 0, 2)", x.setTransition(0, 0, 0, 0, 2), NO_SUCH_STATE);
    }

    private static void newObjectHasNoTransitions() {
        HaltingDecider x = new HaltingDecider();
        for (int state = 0; state < 2; state++) {
            for (int symbol = 0; symbol < 2; symbol++) {
                CHECKS.due("1: next(" + state + ", " + symbol + ")", x.next(state, symbol), NO_TRANSITION);
            }
        }
        CHECKS.due("1: the machine's text", Checks.textOf(x), "------_------");
    }

    private static void newObjectHasEmptyText() {
        CHECKS.due("1: load() of the empty text", new HaltingDecider().load(), -1);
        CHECKS.due("1: the first type(49)", new HaltingDecider().type(49), 1);
    }

    private static void newObjectIsAtTheStart() {
        CHECKS.due("1: the current configuration", positionOf(new HaltingDecider()), START);
        CHECKS.due("1: restart()", new HaltingDecider().restart(), 0);
        CHECKS.due("1: halted()", new HaltingDecider().halted(), true);
    }

    // Promise 2: "count: 1 to 5", "OUT_OF_RANGE if count is out of range".

    private static void oneToFiveStates() {
        for (int count = 1; count <= 5; count++) {
            HaltingDecider x = new HaltingDecider();
            CHECKS.due("2: setStates(" + count + ")", x.setStates(count), 2);
            CHECKS.due("3: states()", x.states(), count);
        }
        int[] refused = {MIN, MIN + 1, -65535, -255, -5, -2, -1, 0, 6, 7, 9, 257, 261, 65537, MAX - 1, MAX};
        for (int count : refused) {
            HaltingDecider x = new HaltingDecider();
            CHECKS.due("2: setStates(" + count + ")", x.setStates(count), OUT_OF_RANGE);
            CHECKS.due("3: states() after setStates(" + count + ")", x.states(), 2);
        }
    }

    /** "Returns the previous number of states", also the same number, and not one that was refused. */
    private static void previousNumberOfStates() {
        for (int before = 1; before <= 5; before++) {
            for (int after = 1; after <= 5; after++) {
                HaltingDecider x = withStates(before);
                x.setStates(0);
                x.setStates(6);
                CHECKS.due("2: setStates(" + after + ") after " + before, x.setStates(after), before);
                CHECKS.due("2: setStates(1) after " + after, x.setStates(1), after);
            }
        }
    }

    /** "removes all transitions": those of the rows that stay, and of those that come back later. */
    private static void setStatesRemovesAllTransitions() {
        for (int count = 1; count <= 5; count++) {
            HaltingDecider x = Checks.machine("1RB1LA_1RC0LD_1RD1RZ_0LA1RE_0RD0RZ");
            x.setStates(count);
            CHECKS.due("2: the machine after setStates(" + count + ")", Checks.textOf(x), emptyText(count));
            x.setStates(5);
            CHECKS.due("2: the machine after setStates(5)", Checks.textOf(x), emptyText(5));
        }
    }

    private static void setStatesMakesTheStartCurrent() {
        for (int count = 1; count <= 5; count++) {
            HaltingDecider x = Checks.machine("1RB1LB_1LA1RZ");
            x.step(3);
            x.setStates(count);
            CHECKS.due("2: after setStates(" + count + ")", positionOf(x), START);
            CHECKS.due("2: restart()", x.restart(), 0);
        }
        HaltingDecider x = Checks.machine("1RB1LB_1LA1RZ");
        x.step(6);
        x.setStates(2);
        CHECKS.due("2: after halting", positionOf(x), START);
    }

    private static void setStatesKeepsTheTypedText() {
        HaltingDecider x = new HaltingDecider();
        Checks.typeAll(x, "1RA");
        x.setStates(1);
        CHECKS.due("2: the typed text stays", Checks.loadText(x, "0LZ"), 1);
        CHECKS.due("2: the machine that was typed", Checks.textOf(x), "1RA0LZ");
    }

    // Promise 4: "NO_SUCH_STATE if state does not exist, or next is neither a state nor HALT".
    // "States are numbered 0 to k - 1."

    private static void setTransitionState() {
        for (int count = 1; count <= 5; count++) {
            HaltingDecider x = withStates(count);
            for (int state = -1; state <= 10; state++) {
                boolean exists = state >= 0 && state < count;
                CHECKS.due("4: state " + state + " of " + count, x.setTransition(state, 0, 1, 1, 0),
                        exists ? 0 : NO_SUCH_STATE);
            }
            int[] far = {MIN, MIN + 1, -65536, -256, 256, 65536, MAX - 1, MAX};
            for (int state : far) {
                CHECKS.due("4: state " + state + " of " + count, x.setTransition(state, 1, 1, 1, 0), NO_SUCH_STATE);
            }
            CHECKS.due("4: the machine", Checks.textOf(x), "_1RA---".repeat(count).substring(1));
        }
    }

    private static void setTransitionNext() {
        for (int count = 1; count <= 5; count++) {
            for (int next = -2; next <= 11; next++) {
                HaltingDecider x = withStates(count);
                boolean isTaken = next >= 0 && next < count || next == 9;
                CHECKS.due("4: next " + next + " of " + count, x.setTransition(0, 0, 1, 1, next), isTaken ? 0 : NO_SUCH_STATE);
                CHECKS.due("8: next(0, 0) of " + count, x.next(0, 0), isTaken ? next : NO_TRANSITION);
            }
            int[] far = {MIN, MIN + 1, -65527, -247, 256, 265, 65536, 65545, MAX - 1, MAX};
            for (int next : far) {
                HaltingDecider x = withStates(count);
                CHECKS.due("4: next " + next + " of " + count, x.setTransition(0, 0, 1, 1, next), NO_SUCH_STATE);
                CHECKS.due("8: next(0, 0)", x.next(0, 0), NO_TRANSITION);
            }
        }
    }

    // "symbol: 0 or 1", "write: 0 or 1", "move: LEFT or RIGHT", "OUT_OF_RANGE if any other argument
    // is out of range".

    private static void setTransitionOtherArguments() {
        for (int bits = 0; bits < 8; bits++) {
            HaltingDecider x = new HaltingDecider();
            int symbol = bits & 1;
            int write = bits >> 1 & 1;
            int move = bits >> 2;
            CHECKS.due("4: symbol, write, move as in " + bits, x.setTransition(0, symbol, write, move, 0), 0);
            CHECKS.due("6: writes", x.writes(0, symbol), write);
            CHECKS.due("7: moves", x.moves(0, symbol), move);
            CHECKS.due("8: next", x.next(0, symbol), 0);
            CHECKS.due("8: next of the other symbol", x.next(0, 1 - symbol), NO_TRANSITION);
        }
        for (int wrong : NO_SYMBOLS) {
            HaltingDecider x = new HaltingDecider();
            CHECKS.due("4: symbol " + wrong, x.setTransition(0, wrong, 0, 0, 0), OUT_OF_RANGE);
            CHECKS.due("4: write " + wrong, x.setTransition(0, 0, wrong, 0, 0), OUT_OF_RANGE);
            CHECKS.due("4: move " + wrong, x.setTransition(0, 0, 0, wrong, 0), OUT_OF_RANGE);
            CHECKS.due("4: symbol, to HALT", x.setTransition(1, wrong, 1, 1, 9), OUT_OF_RANGE);
            CHECKS.due("4: write, to HALT", x.setTransition(1, 1, wrong, 1, 9), OUT_OF_RANGE);
            CHECKS.due("4: move, to HALT", x.setTransition(1, 1, 1, wrong, 9), OUT_OF_RANGE);
            CHECKS.due("4: the machine after " + wrong, Checks.textOf(x), "------_------");
        }
    }

    /** "(checked first)": a wrong state goes before each other wrong argument. */
    private static void statesAreCheckedFirst() {
        HaltingDecider x = new HaltingDecider();
        int[] noStates = {MIN, -1, 2, 8, 10, MAX};
        for (int wrong : noStates) {
            CHECKS.due("4: state " + wrong + " and symbol", x.setTransition(wrong, 2, 0, 0, 0), NO_SUCH_STATE);
            CHECKS.due("4: state " + wrong + " and write", x.setTransition(wrong, 0, 2, 0, 0), NO_SUCH_STATE);
            CHECKS.due("4: state " + wrong + " and move", x.setTransition(wrong, 0, 0, 2, 0), NO_SUCH_STATE);
            CHECKS.due("4: next " + wrong + " and symbol", x.setTransition(0, 2, 0, 0, wrong), NO_SUCH_STATE);
            CHECKS.due("4: next " + wrong + " and write", x.setTransition(0, 0, 2, 0, wrong), NO_SUCH_STATE);
            CHECKS.due("4: next " + wrong + " and move", x.setTransition(0, 0, 0, 2, wrong), NO_SUCH_STATE);
            CHECKS.due("4: all but the symbols", x.setTransition(wrong, 0, 0, 0, wrong), NO_SUCH_STATE);
            CHECKS.due("4: everything", x.setTransition(wrong, -1, -1, -1, wrong), NO_SUCH_STATE);
        }
        CHECKS.due("4: HALT is no state", x.setTransition(9, 0, 0, 0, 9), NO_SUCH_STATE);
    }

    /** "Returns 1 if there was a transition for this state and symbol, otherwise 0", for all ten. */
    private static void setTransitionTellsWhetherThereWasOne() {
        HaltingDecider x = withStates(5);
        for (int round = 0; round <= 2; round++) {
            for (int state = 4; state >= 0; state--) {
                for (int symbol = 0; symbol <= 1; symbol++) {
                    CHECKS.due("4: round " + round + ", state " + state + ", symbol " + symbol,
                            x.setTransition(state, symbol, symbol, round & 1, round == 1 ? 9 : state), round == 0 ? 0 : 1);
                }
            }
        }
        CHECKS.due("4: the full machine", Checks.textOf(x), "0LA1LA_0LB1LB_0LC1LC_0LD1LD_0LE1LE");
        x.removeTransition(4, 1);
        CHECKS.due("4: after removeTransition", x.setTransition(4, 1, 1, 1, 9), 0);
        CHECKS.due("4: once more", x.setTransition(4, 1, 1, 1, 9), 1);
        x.setStates(5);
        CHECKS.due("4: after setStates", x.setTransition(4, 1, 1, 1, 9), 0);
    }

    /** Also if the transition is set to what it was, and if the machine has halted. */
    private static void setTransitionMakesTheStartCurrent() {
        HaltingDecider x = Checks.machine("1RB1LB_1LA1RZ");
        x.step(5);
        x.setTransition(1, 1, 1, 1, 9);
        CHECKS.due("4: the same transition", positionOf(x), START);
        x.step(6);
        x.setTransition(0, 0, 1, 1, 1);
        CHECKS.due("4: after halting", positionOf(x), START);
        CHECKS.due("4: halted()", x.halted(), false);
        x.setTransition(0, 0, 1, 1, 9);
        x.step(1);
        CHECKS.due("4: the new transition is used", x.state(), 9);
    }

    // Promise 5: "Returns 1; NO_SUCH_STATE if state does not exist (checked first); OUT_OF_RANGE if
    // symbol is not 0 or 1 (checked second); NO_TRANSITION if there is none."

    private static void removeTransitionErrors() {
        for (int count = 1; count <= 5; count++) {
            HaltingDecider x = withStates(count);
            for (int state = 0; state < count; state++) {
                x.setTransition(state, 1, 0, 0, 9);
            }
            int[] noStates = {MIN, -2, -1, count, count + 1, 9, 256, 65536, MAX};
            for (int state : noStates) {
                CHECKS.due("5: state " + state + " of " + count, x.removeTransition(state, 1), NO_SUCH_STATE);
            }
            for (int symbol : NO_SYMBOLS) {
                CHECKS.due("5: symbol " + symbol, x.removeTransition(count - 1, symbol), OUT_OF_RANGE);
            }
            CHECKS.due("5: state 0, symbol 0", x.removeTransition(0, 0), NO_TRANSITION);
            CHECKS.due("5: the last state, symbol 0", x.removeTransition(count - 1, 0), NO_TRANSITION);
            CHECKS.due("5: the last state, symbol 1", x.removeTransition(count - 1, 1), 1);
            CHECKS.due("5: the last state, symbol 1 again", x.removeTransition(count - 1, 1), NO_TRANSITION);
        }
    }

    private static void removeTransitionInTheirOrder() {
        HaltingDecider x = new HaltingDecider();
        CHECKS.due("5: no state, no symbol, no transition", x.removeTransition(2, 2), NO_SUCH_STATE);
        CHECKS.due("5: no state, no symbol", x.removeTransition(-1, -1), NO_SUCH_STATE);
        CHECKS.due("5: no state, no transition", x.removeTransition(2, 0), NO_SUCH_STATE);
        CHECKS.due("5: no symbol, no transition", x.removeTransition(1, 2), OUT_OF_RANGE);
        CHECKS.due("5: no symbol, no transition", x.removeTransition(0, -1), OUT_OF_RANGE);
        CHECKS.due("5: no transition", x.removeTransition(1, 1), NO_TRANSITION);
    }

    /** From the full machine to the empty one; each call removes its own transition and no other. */
    private static void removeTransitionToTheLast() {
        StringBuilder text = new StringBuilder("0LA1LA_0RB1RB_0LC1LC_0RD1RD_0LE1RZ");
        HaltingDecider x = Checks.machine(text.toString());
        for (int entry = 0; entry < 10; entry++) {
            int state = entry * 3 % 10 / 2;
            int symbol = entry * 3 % 10 % 2;
            CHECKS.due("5: removeTransition(" + state + ", " + symbol + ")", x.removeTransition(state, symbol), 1);
            int at = 7 * state + 3 * symbol;
            text.replace(at, at + 3, "---");
            CHECKS.due("5: the machine", Checks.textOf(x), text.toString());
        }
        CHECKS.due("5: the empty machine", Checks.textOf(x), emptyText(5));
        CHECKS.due("5: the states stay", x.states(), 5);
    }

    private static void removeTransitionMakesTheStartCurrent() {
        HaltingDecider x = Checks.machine("1RB1LB_1LA1RZ");
        x.step(3);
        x.removeTransition(1, 0);
        CHECKS.due("5: amid a run", positionOf(x), START);
        CHECKS.due("5: halted()", x.halted(), false);
        x.step(1);
        x.removeTransition(0, 0);
        CHECKS.due("5: after halting", positionOf(x), START);
        CHECKS.due("5: halted() without transition for the start", x.halted(), true);
    }

    // Promises 6 to 8: each value that a transition can have, and "the errors are those of
    // removeTransition".

    private static void readersAnswerEveryValue() {
        HaltingDecider x = Checks.machine("0LA1RB_1LC0RD_0RE1RZ_---0LA_1LZ---");
        int[] writes = {0, 1, 1, 0, 0, 1, NO_TRANSITION, 0, 1, NO_TRANSITION};
        int[] moves = {0, 1, 0, 1, 1, 1, NO_TRANSITION, 0, 0, NO_TRANSITION};
        int[] nexts = {0, 1, 2, 3, 4, 9, NO_TRANSITION, 0, 9, NO_TRANSITION};
        for (int entry = 0; entry < 10; entry++) {
            String at = "(" + entry / 2 + ", " + entry % 2 + ")";
            CHECKS.due("6: writes" + at, x.writes(entry / 2, entry % 2), writes[entry]);
            CHECKS.due("7: moves" + at, x.moves(entry / 2, entry % 2), moves[entry]);
            CHECKS.due("8: next" + at, x.next(entry / 2, entry % 2), nexts[entry]);
        }
    }

    private static void readersRefuse() {
        for (int count = 1; count <= 5; count++) {
            HaltingDecider x = withStates(count);
            x.setTransition(count - 1, 0, 1, 1, 9);
            int[] noStates = {MIN, -1, count, 9, MAX};
            for (int state : noStates) {
                readersAnswer(x, state, 0, NO_SUCH_STATE);
                readersAnswer(x, state, 2, NO_SUCH_STATE);
                readersAnswer(x, state, MIN, NO_SUCH_STATE);
            }
            for (int symbol : NO_SYMBOLS) {
                readersAnswer(x, count - 1, symbol, OUT_OF_RANGE);
            }
            readersAnswer(x, count - 1, 1, NO_TRANSITION);
        }
    }

    private static void readersAnswer(HaltingDecider x, int state, int symbol, int want) {
        String at = "(" + state + ", " + symbol + ")";
        CHECKS.due("6: writes" + at, x.writes(state, symbol), want);
        CHECKS.due("7: moves" + at, x.moves(state, symbol), want);
        CHECKS.due("8: next" + at, x.next(state, symbol), want);
    }
}
