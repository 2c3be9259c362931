/**
 * Promises 12 to 20, and STEPS of the description: each sentence that names a boundary has a method
 * of its own.
 */
public final class BoundaryRunTest {
    private static final Checks CHECKS = new Checks();
    private static final int OUT_OF_RANGE = -1002;
    private static final int HALTED = -1004;
    private static final int MIN = Integer.MIN_VALUE;
    private static final int MAX = Integer.MAX_VALUE;
    /** Halts at time 6 by a step to HALT. */
    private static final String SIX = "1RB1LB_1LA1RZ";
    /** Has no transition at time 4533. */
    private static final String LATE = "1RB0LA_0LC0LD_1RD1LA_1LA1RE_0RC---";
    private static final String RIGHTWARD = "1RA---";
    private static final String LEFTWARD = "1LA---";

    public static void main(String[] args) {
        haltsAtOnceWithoutAStep();
        haltsAfterTheStepToHalt();
        haltStepWritesAndMoves();
        restartAnswersTheStepsMade();
        restartMakesTheStartCurrent();
        oneToThousandSteps();
        stepsUpToTime5000();
        stepsThatWouldWrap();
        rangeIsCheckedBeforeHalted();
        halted();
        stopsAtTheNumberOfSteps();
        stopsWhereItHalts();
        timeCountsTheSteps();
        everyState();
        stateWithoutTransition();
        haltedAtTheStart();
        headAtTheFarEnds();
        cellAtAnyPosition();
        cellsThatWereNeverVisited();
        onesFromNoneToAll();
        visitedBothIncluded();
        visitedCountsACellOnce();
        CHECKS.finish();
    }

    // STEPS: "halts at once, without a step, if there is no transition for q and s".

    private static void haltsAtOnceWithoutAStep() {
        String[] texts = {"------", "---1RA", "------_1RA1LA", "---1RZ"};
        for (String text : texts) {
            HaltingDecider x = Checks.machine(text);
            CHECKS.due("16: halted() of " + text, x.halted(), true);
            CHECKS.due("13: step(1) of " + text, x.step(1), HALTED);
            CHECKS.due("13: step(1000) of " + text, x.step(1000), HALTED);
            CHECKS.due("14: time() of " + text, x.time(), 0);
            CHECKS.due("15: state() of " + text, x.state(), 0);
            CHECKS.due("17: head() of " + text, x.head(), 0);
            CHECKS.due("20: visited() of " + text, x.visited(), 1);
        }
    }

    /** "If the next state is HALT, the machine has halted after that step": not before it. */
    private static void haltsAfterTheStepToHalt() {
        HaltingDecider x = Checks.machine("0RZ---");
        CHECKS.due("16: halted() before the step", x.halted(), false);
        CHECKS.due("13: step(1000)", x.step(1000), 1);
        CHECKS.due("16: halted() after the step", x.halted(), true);
        CHECKS.due("15: state()", x.state(), 9);
        CHECKS.due("14: time()", x.time(), 1);
        CHECKS.due("13: step(1)", x.step(1), HALTED);
        CHECKS.due("12: restart()", x.restart(), 1);
        CHECKS.due("16: halted() after restart", x.halted(), false);
    }

    /** "the write and the move have been made": to both sides, a 1 over a 0 and a 0 over a 1. */
    private static void haltStepWritesAndMoves() {
        haltStep("1RZ---", 1, 1, 1);
        haltStep("1LZ---", -1, 1, 1);
        haltStep("0RZ---", 1, 0, 0);
        haltStep("0LZ---", -1, 0, 0);
        // A and B come back to the 1 that A wrote; C writes over it and halts.
        haltStep("1RB---_0LC---_---0RZ", 1, 0, 0);
        haltStep("1LB---_0RC---_---0LZ", -1, 0, 0);
        haltStep("1RB---_0LC---_---1LZ", -1, 1, 1);
    }

    private static void haltStep(String text, int head, int cell, int ones) {
        HaltingDecider x = Checks.machine(text);
        x.step(10);
        CHECKS.due("15: state() of " + text, x.state(), 9);
        CHECKS.due("17: head() of " + text, x.head(), head);
        CHECKS.due("18: cell(0) of " + text, x.cell(0), cell);
        CHECKS.due("19: ones() of " + text, x.ones(), ones);
    }

    // Promise 12: "returns the number of steps that had been made".

    private static void restartAnswersTheStepsMade() {
        int[] times = {0, 1, 999, 1000, 1001, 4999, 5000};
        for (int time : times) {
            HaltingDecider x = Checks.machine(RIGHTWARD);
            Checks.stepTo(x, time);
            CHECKS.due("12: restart() at " + time, x.restart(), time);
            CHECKS.due("12: restart() again", x.restart(), 0);
        }
        HaltingDecider x = Checks.machine(SIX);
        x.step(2);
        x.step(0);
        x.step(1001);
        x.step(1);
        CHECKS.due("12: refused steps are not counted", x.restart(), 3);
        x.step(1000);
        x.step(1000);
        CHECKS.due("12: steps after halting are not counted", x.restart(), 6);
    }

    private static void restartMakesTheStartCurrent() {
        String[] texts = {SIX, RIGHTWARD, LEFTWARD, LATE, "------"};
        int[] steps = {1, 6, 1000};
        for (String text : texts) {
            for (int number : steps) {
                HaltingDecider x = Checks.machine(text);
                String face = Checks.faceOf(x);
                x.step(number);
                x.restart();
                CHECKS.due("12: the state of " + text + " after restart()", Checks.faceOf(x), face);
            }
        }
    }

    // Promise 13: "steps: 1 to 1000", "OUT_OF_RANGE if steps is out of range or time() + steps is
    // greater than 5000 (checked first); HALTED if the machine has already halted."

    private static void oneToThousandSteps() {
        int[] taken = {1, 2, 999, 1000};
        for (int steps : taken) {
            HaltingDecider x = Checks.machine(RIGHTWARD);
            CHECKS.due("13: step(" + steps + ")", x.step(steps), steps);
            CHECKS.due("14: time() after it", x.time(), steps);
        }
        int[] refused = {MIN, MIN + 1, -65535, -255, -1000, -1, 0, 1001, 1002, 5000, 65537, MAX - 1, MAX};
        for (int steps : refused) {
            HaltingDecider x = Checks.machine(RIGHTWARD);
            CHECKS.due("13: step(" + steps + ")", x.step(steps), OUT_OF_RANGE);
            CHECKS.due("14: time() after step(" + steps + ")", x.time(), 0);
            CHECKS.due("17: head() after step(" + steps + ")", x.head(), 0);
        }
    }

    private static void stepsUpToTime5000() {
        upTo5000(4000, 1000, 1001);
        upTo5000(4001, 999, 1000);
        upTo5000(4500, 500, 501);
        upTo5000(4998, 2, 3);
        upTo5000(4999, 1, 2);
        upTo5000(5000, 0, 1);
    }

    private static void upTo5000(int time, int last, int refused) {
        HaltingDecider x = Checks.machine(RIGHTWARD);
        Checks.stepTo(x, time);
        CHECKS.due("13: step(" + refused + ") at " + time, x.step(refused), OUT_OF_RANGE);
        CHECKS.due("14: time() after it", x.time(), time);
        CHECKS.due("17: head() after it", x.head(), time);
        CHECKS.due("13: step(" + last + ") at " + time, x.step(last), last == 0 ? OUT_OF_RANGE : last);
        CHECKS.due("14: time()", x.time(), 5000);
        CHECKS.due("13: step(1) at 5000", x.step(1), OUT_OF_RANGE);
        CHECKS.due("13: step(1000) at 5000", x.step(1000), OUT_OF_RANGE);
        CHECKS.due("14: time() stays", x.time(), 5000);
        CHECKS.due("16: halted() at 5000", x.halted(), false);
        x.restart();
        CHECKS.due("13: step(1000) after restart", x.step(1000), 1000);
    }

    /** time() + steps is greater than the greatest int. */
    private static void stepsThatWouldWrap() {
        int[] times = {1, 1000, 5000};
        for (int time : times) {
            HaltingDecider x = Checks.machine(RIGHTWARD);
            Checks.stepTo(x, time);
            CHECKS.due("13: step(MAX) at " + time, x.step(MAX), OUT_OF_RANGE);
            CHECKS.due("13: step(MAX - time + 1) at " + time, x.step(MAX - time + 1), OUT_OF_RANGE);
            CHECKS.due("13: step(MIN) at " + time, x.step(MIN), OUT_OF_RANGE);
            CHECKS.due("14: time()", x.time(), time);
        }
    }

    /** "(checked first)", for both kinds of halting, and by the steps and by the time. */
    private static void rangeIsCheckedBeforeHalted() {
        String[] texts = {SIX, "1RB---_------", "------"};
        int[] refused = {MIN, -1, 0, 1001, MAX};
        for (String text : texts) {
            HaltingDecider x = Checks.machine(text);
            x.step(1000);
            for (int steps : refused) {
                CHECKS.due("13: step(" + steps + ") of " + text, x.step(steps), OUT_OF_RANGE);
            }
            CHECKS.due("13: step(1) of " + text, x.step(1), HALTED);
            CHECKS.due("13: step(1000) of " + text, x.step(1000), HALTED);
        }
        HaltingDecider x = Checks.machine(LATE);
        Checks.stepTo(x, 4533);
        CHECKS.due("13: to time 5000", x.step(467), HALTED);
        CHECKS.due("13: to time 5001", x.step(468), OUT_OF_RANGE);
        CHECKS.due("13: step(1000)", x.step(1000), OUT_OF_RANGE);
        CHECKS.due("14: time()", x.time(), 4533);
    }

    private static void halted() {
        HaltingDecider x = Checks.machine(SIX);
        CHECKS.due("13: step(5)", x.step(5), 5);
        CHECKS.due("16: halted() at 5", x.halted(), false);
        CHECKS.due("13: step(1) at 5", x.step(1), 1);
        CHECKS.due("16: halted() at 6", x.halted(), true);
        String face = Checks.faceOf(x);
        CHECKS.due("13: step(1) at 6", x.step(1), HALTED);
        CHECKS.due("13: step(1) at 6 again", x.step(1), HALTED);
        CHECKS.due("13: nothing has changed", Checks.faceOf(x), face);
    }

    // "Makes steps from the current configuration until a number of steps has been made or the
    // machine has halted."

    private static void stopsAtTheNumberOfSteps() {
        HaltingDecider x = Checks.machine(SIX);
        CHECKS.due("13: step(6), as many as it makes", x.step(6), 6);
        CHECKS.due("16: halted()", x.halted(), true);
        x.restart();
        CHECKS.due("13: step(5), one fewer", x.step(5), 5);
        CHECKS.due("16: halted()", x.halted(), false);
        // The last step comes to a cell without transition: it is made, and the machine has halted.
        x = Checks.machine("1RB---_------");
        CHECKS.due("13: step(1)", x.step(1), 1);
        CHECKS.due("16: halted()", x.halted(), true);
        CHECKS.due("13: step(1) again", x.step(1), HALTED);
    }

    private static void stopsWhereItHalts() {
        HaltingDecider x = Checks.machine(SIX);
        CHECKS.due("13: step(7), one more than it makes", x.step(7), 6);
        x.restart();
        CHECKS.due("13: step(1000)", x.step(1000), 6);
        x.restart();
        x.step(4);
        CHECKS.due("13: step(3) at 4", x.step(3), 2);
        x = Checks.machine(LATE);
        Checks.stepTo(x, 4000);
        CHECKS.due("13: step(1000) at 4000", x.step(1000), 533);
        CHECKS.due("14: time()", x.time(), 4533);
    }

    // Promise 14: "Returns the number of steps made since the start configuration."

    private static void timeCountsTheSteps() {
        HaltingDecider x = Checks.machine(RIGHTWARD);
        int time = 0;
        int[] steps = {1, 2, 1000, 997, 1000, 1000, 1000};
        CHECKS.due("14: time() at the start", x.time(), 0);
        for (int number : steps) {
            x.step(number);
            time += number;
            CHECKS.due("14: time()", x.time(), time);
        }
        CHECKS.due("14: the greatest time", x.time(), 5000);
    }

    // Promise 15: "Returns the current state, or HALT if the last step went to HALT."

    private static void everyState() {
        HaltingDecider x = Checks.machine("0RB---_0RC---_0RD---_0RE---_0RZ---");
        int[] states = {0, 1, 2, 3, 4, 9};
        for (int time = 0; time <= 5; time++) {
            CHECKS.due("15: state() at " + time, x.state(), states[time]);
            CHECKS.due("16: halted() at " + time, x.halted(), time == 5);
            x.step(1);
        }
        CHECKS.due("15: state() stays HALT", x.state(), 9);
        x.restart();
        CHECKS.due("15: state() after restart", x.state(), 0);
    }

    /** "the state is the one for which there is none": each state, and both symbols. */
    private static void stateWithoutTransition() {
        String rows = "0RB---_0RC---_0RD---_0RE---";
        for (int state = 0; state <= 4; state++) {
            StringBuilder text = new StringBuilder(rows + "_0RA---");
            text.replace(7 * state, 7 * state + 3, "---");
            HaltingDecider x = Checks.machine(text.toString());
            CHECKS.due("13: step(9) of " + text, x.step(9), state == 0 ? HALTED : state);
            CHECKS.due("15: state() of " + text, x.state(), state);
            CHECKS.due("16: halted() of " + text, x.halted(), true);
        }
        // B has a transition for 0 only, and meets the 1 that A wrote.
        HaltingDecider x = Checks.machine("1RB---_0LB---");
        CHECKS.due("13: step(9)", x.step(9), 2);
        CHECKS.due("15: state()", x.state(), 1);
        CHECKS.due("18: the symbol under the head", x.cell(x.head()), 1);
        CHECKS.due("16: halted()", x.halted(), true);
    }

    // Promise 16: "its last step went to HALT, or there is no transition for the current state and
    // the symbol under the head."

    private static void haltedAtTheStart() {
        HaltingDecider x = new HaltingDecider();
        CHECKS.due("16: without transitions", x.halted(), true);
        x.setTransition(0, 1, 1, 1, 0);
        CHECKS.due("16: with one for the other symbol", x.halted(), true);
        x.setTransition(1, 0, 1, 1, 0);
        CHECKS.due("16: with one for the other state", x.halted(), true);
        x.setTransition(0, 0, 1, 1, 9);
        CHECKS.due("16: with one to HALT", x.halted(), false);
        x.removeTransition(0, 1);
        CHECKS.due("16: without one for the other symbol", x.halted(), false);
        x.removeTransition(0, 0);
        CHECKS.due("16: after removing it", x.halted(), true);
        x.setStates(5);
        CHECKS.due("16: after setStates", x.halted(), true);
    }

    // Promise 17, and MACHINE: "The tape is unbounded in both directions".

    private static void headAtTheFarEnds() {
        HaltingDecider right = Checks.machine(RIGHTWARD);
        HaltingDecider left = Checks.machine(LEFTWARD);
        int[] times = {1, 31, 32, 33, 1000, 4999, 5000};
        for (int time : times) {
            Checks.stepTo(right, time);
            Checks.stepTo(left, time);
            CHECKS.due("17: head() to the right", right.head(), time);
            CHECKS.due("17: head() to the left", left.head(), -time);
            CHECKS.due("18: the cell before it", right.cell(time - 1), 1);
            CHECKS.due("18: the cell before it", left.cell(1 - time), 1);
            CHECKS.due("18: the cell under it", right.cell(time), 0);
            CHECKS.due("18: the cell under it", left.cell(-time), 0);
        }
    }

    // Promise 18: "Any position is allowed; cells that were never visited hold 0."

    private static void cellAtAnyPosition() {
        int[] far = {MIN, MIN + 1, MIN + 4999, MIN + 5000, -1000000, -65536, -5002, -5001, -5000, 5000, 5001, 5002,
            65536, 1000000, MAX - 5000, MAX - 4999, MAX - 1, MAX};
        String[] texts = {"------", SIX, RIGHTWARD, LEFTWARD};
        for (String text : texts) {
            HaltingDecider x = Checks.machine(text);
            if (text.equals(RIGHTWARD) || text.equals(LEFTWARD)) {
                Checks.stepTo(x, 5000);
            } else {
                x.step(6);
            }
            for (int position : far) {
                CHECKS.due("18: cell(" + position + ") of " + text, x.cell(position), 0);
            }
        }
    }

    private static void cellsThatWereNeverVisited() {
        HaltingDecider x = Checks.machine(SIX);
        x.step(6);
        for (int position = -100; position <= 100; position++) {
            CHECKS.due("18: cell(" + position + ")", x.cell(position), position >= -2 && position <= 1 ? 1 : 0);
        }
        // All cells of the right side are visited, and none of the left.
        x = Checks.machine(RIGHTWARD);
        Checks.stepTo(x, 5000);
        CHECKS.due("18: cell(-1)", x.cell(-1), 0);
        CHECKS.due("18: cell(0)", x.cell(0), 1);
        CHECKS.due("18: cell(4999)", x.cell(4999), 1);
        CHECKS.due("18: cell(5000)", x.cell(5000), 0);
        x = Checks.machine(LEFTWARD);
        Checks.stepTo(x, 5000);
        CHECKS.due("18: cell(1)", x.cell(1), 0);
        CHECKS.due("18: cell(0)", x.cell(0), 1);
        CHECKS.due("18: cell(-4999)", x.cell(-4999), 1);
        CHECKS.due("18: cell(-5000)", x.cell(-5000), 0);
    }

    // Promise 19: "Returns the number of cells that hold 1 in the current configuration."

    private static void onesFromNoneToAll() {
        String[] texts = {RIGHTWARD, LEFTWARD};
        for (String text : texts) {
            HaltingDecider x = Checks.machine(text);
            int[] times = {0, 1, 31, 32, 33, 64, 4999, 5000};
            for (int time : times) {
                Checks.stepTo(x, time);
                CHECKS.due("19: ones() of " + text + " at " + time, x.ones(), time);
            }
            x.restart();
            CHECKS.due("19: ones() after restart", x.ones(), 0);
        }
        HaltingDecider x = Checks.machine("0RA---");
        Checks.stepTo(x, 5000);
        CHECKS.due("19: ones() where only zeros are written", x.ones(), 0);
        // A 1 that is written over a 1 counts once, and a 0 over a 1 no more.
        x = Checks.machine("1RB0RB_0LA1LA");
        int[] ones = {0, 1, 1, 0, 0, 1};
        for (int time = 0; time < ones.length; time++) {
            CHECKS.due("19: ones() at " + time, x.ones(), ones[time]);
            x.step(1);
        }
    }

    // Promise 20: "the number of different cells that the head has been on, from the start
    // configuration to the current one, both included."

    private static void visitedBothIncluded() {
        String[] texts = {RIGHTWARD, LEFTWARD, "0RA---", "0LA---"};
        int[] times = {0, 1, 2, 32, 4999, 5000};
        for (String text : texts) {
            HaltingDecider x = Checks.machine(text);
            for (int time : times) {
                Checks.stepTo(x, time);
                CHECKS.due("20: visited() of " + text + " at " + time, x.visited(), time + 1);
            }
            x.restart();
            CHECKS.due("20: visited() after restart", x.visited(), 1);
        }
        CHECKS.due("20: visited() of a new object", new HaltingDecider().visited(), 1);
        HaltingDecider x = Checks.machine("1LZ---");
        x.step(1);
        CHECKS.due("20: the cell that the step to HALT moved to", x.visited(), 2);
    }

    private static void visitedCountsACellOnce() {
        HaltingDecider x = Checks.machine("0RB---_0LA---");
        int[] times = {1, 2, 3, 1000, 5000};
        for (int time : times) {
            Checks.stepTo(x, time);
            CHECKS.due("20: visited() to and fro at " + time, x.visited(), 2);
        }
        x = Checks.machine(SIX);
        int[] visited = {1, 2, 2, 3, 4, 4, 4};
        for (int time = 0; time <= 6; time++) {
            CHECKS.due("20: visited() at " + time, x.visited(), visited[time]);
            x.step(1);
        }
    }
}
