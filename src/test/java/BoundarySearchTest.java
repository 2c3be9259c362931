/**
 * Promises 21 to 25, and CYCLE and TRANSLATED CYCLE of the description: each sentence that names a
 * boundary has a method of its own.
 *
 * <p>Two sentences on the choice of a drift leave nothing to choose, so that no test can show them: of
 * two drifts with the same t2, the run after the earlier t1 is the run after the later one until a
 * drift with a smaller t2 is there; and no time but 0 is a right record and a left record.
 */
public final class BoundarySearchTest {
    private static final Checks CHECKS = new Checks();
    private static final int OUT_OF_RANGE = -1002;
    private static final int NONE = -1005;
    private static final int MIN = Integer.MIN_VALUE;
    private static final int MAX = Integer.MAX_VALUE;
    private static final int[] NO_LIMITS = {MIN, MIN + 1, -65535, -255, -200, -2, -1, 0, 201, 202, 257, 65537, MAX - 1, MAX};

    public static void main(String[] args) {
        limitsFrom1To200();
        limitIsCheckedFirst();
        haltsAtTimeZero();
        haltsAtTheLimit();
        haltsAtTheLastLimit();
        searchesDoNotUseTheCurrentConfiguration();
        searchesDoNotUseOneAnother();
        cycleAtTheLimit();
        cycleAtTheLastLimit();
        cycleNeedsTheSameState();
        cycleNeedsTheSameHead();
        cycleNeedsTheSameTape();
        firstCycleIsFound();
        haltingIsNoCycle();
        timeZeroIsBothRecords();
        driftAtTheLimit();
        driftAtTheLastLimit();
        recordsAreStrict();
        driftNeedsTheSameState();
        cellAtTheFarEndIsCompared();
        cellBehindTheFarEndIsNot();
        farEndIsOfTheTimesBetween();
        firstDriftIsFound();
        onlyTimesThatAreReached();
        offsetsOfBothSigns();
        CHECKS.finish();
    }

    /** The halting time is found from its own time on, and NONE before; -1 if there is none. */
    private static void halts(String text, int time) {
        HaltingDecider x = Checks.machine(text);
        for (int limit = 1; limit <= 200; limit++) {
            CHECKS.due("21: haltingTime(" + limit + ") of " + text, x.haltingTime(limit),
                    time >= 0 && limit >= time ? time : NONE);
        }
    }

    private static void cycles(String text, int start, int length) {
        HaltingDecider x = Checks.machine(text);
        for (int limit = 1; limit <= 200; limit++) {
            boolean isFound = start >= 0 && limit >= start + length;
            CHECKS.due("22: cycleStart(" + limit + ") of " + text, x.cycleStart(limit), isFound ? start : NONE);
            CHECKS.due("23: cycleLength(" + limit + ") of " + text, x.cycleLength(limit), isFound ? length : NONE);
        }
    }

    private static void noCycle(String text) {
        cycles(text, -1, 0);
    }

    private static String mirrored(String text) {
        return text.replace('L', '#').replace('R', 'L').replace('#', 'R');
    }

    /** The drift between two times, and its mirror image. */
    private static void drifts(String text, int t1, int t2, int offset) {
        driftsOneWay(text, t1, t2, offset);
        driftsOneWay(mirrored(text), t1, t2, -offset);
    }

    private static void driftsOneWay(String text, int t1, int t2, int offset) {
        HaltingDecider x = Checks.machine(text);
        for (int limit = 1; limit <= 200; limit++) {
            boolean isFound = t1 >= 0 && limit >= t2;
            CHECKS.due("24: driftPeriod(" + limit + ") of " + text, x.driftPeriod(limit), isFound ? t2 - t1 : NONE);
            CHECKS.due("25: driftOffset(" + limit + ") of " + text, x.driftOffset(limit), isFound ? offset : NONE);
        }
    }

    private static void noDrift(String text) {
        drifts(text, -1, 0, 0);
    }

    // "limit: 1 to 200", "OUT_OF_RANGE if limit is out of range (checked first)".

    private static void limitsFrom1To200() {
        HaltingDecider x = Checks.machine("1RZ---");
        CHECKS.due("21: haltingTime(1)", x.haltingTime(1), 1);
        CHECKS.due("21: haltingTime(200)", x.haltingTime(200), 1);
        x = Checks.machine("0RB---_0LA---");
        CHECKS.due("22: cycleStart(1)", x.cycleStart(1), NONE);
        CHECKS.due("22: cycleStart(200)", x.cycleStart(200), 0);
        CHECKS.due("23: cycleLength(1)", x.cycleLength(1), NONE);
        CHECKS.due("23: cycleLength(200)", x.cycleLength(200), 2);
        x = Checks.machine("0RA---");
        CHECKS.due("24: driftPeriod(1)", x.driftPeriod(1), 1);
        CHECKS.due("24: driftPeriod(200)", x.driftPeriod(200), 1);
        CHECKS.due("25: driftOffset(1)", x.driftOffset(1), 1);
        CHECKS.due("25: driftOffset(200)", x.driftOffset(200), 1);
        refuseEveryWrongLimit(x);
    }

    private static void refuseEveryWrongLimit(HaltingDecider x) {
        for (int limit : NO_LIMITS) {
            CHECKS.due("21: haltingTime(" + limit + ")", x.haltingTime(limit), OUT_OF_RANGE);
            CHECKS.due("22: cycleStart(" + limit + ")", x.cycleStart(limit), OUT_OF_RANGE);
            CHECKS.due("23: cycleLength(" + limit + ")", x.cycleLength(limit), OUT_OF_RANGE);
            CHECKS.due("24: driftPeriod(" + limit + ")", x.driftPeriod(limit), OUT_OF_RANGE);
            CHECKS.due("25: driftOffset(" + limit + ")", x.driftOffset(limit), OUT_OF_RANGE);
        }
    }

    /** Before NONE, and before an answer that needs no limit. */
    private static void limitIsCheckedFirst() {
        String[] texts = {"------", "1RZ---", "0RB---_0LA---", "0RA---", "1RB1LB_1LA1RZ"};
        for (String text : texts) {
            refuseEveryWrongLimit(Checks.machine(text));
        }
    }

    // Promise 21: "This is 0 if there is no transition for state 0 and symbol 0."

    private static void haltsAtTimeZero() {
        halts("------", 0);
        halts("---1RA", 0);
        halts("---1RZ_1RA1LA", 0);
        HaltingDecider x = new HaltingDecider();
        CHECKS.due("21: haltingTime(1) of a new object", x.haltingTime(1), 0);
        x.setTransition(0, 0, 1, 1, 0);
        CHECKS.due("21: haltingTime(1) with the transition", x.haltingTime(1), NONE);
        x.removeTransition(0, 0);
        CHECKS.due("21: haltingTime(1) without it", x.haltingTime(1), 0);
    }

    /** "NONE if it has not halted at time limit": each time from 1 on, by both kinds of halting. */
    private static void haltsAtTheLimit() {
        String rows = "0RB---_0LC---_0RD---_0LE---_0RA---";
        for (int state = 0; state <= 4; state++) {
            StringBuilder text = new StringBuilder(rows);
            halts(text.replace(7 * state, 7 * state + 3, "---").toString(), state);
            halts(text.replace(7 * state, 7 * state + 3, "1RZ").toString(), state + 1);
        }
        halts("0RA---", -1);
    }

    private static void haltsAtTheLastLimit() {
        halts("1RB---_0RC0LB_1RD1RE_1LB1LD_1RA1RE", 199);
        halts("1RB1RZ_0RC0LB_1RD1RE_1LB1LD_1RA1RE", 200);
        halts("1RB0LE_1LD0RC_1LB1LA_1LA1LC_---0RC", 200);
        // At time 201, by a step to HALT and without transition.
        halts("1RB0LE_1LD0RC_1LB1LA_1LA1LC_1RZ0RC", -1);
        halts("1RB1LB_1LD1RC_1RE0LD_1RA1LA_---0RC", -1);
    }

    /** "This method and those below do not use or change the current configuration." */
    private static void searchesDoNotUseTheCurrentConfiguration() {
        String[] texts = {"1RB1LB_1LA1RZ", "1RB1RB_1LA1LA", "1RB1LB_1LA0RB", "1RB0LB_1LA0RC_1RB---", "1RZ---"};
        int[] steps = {1, 2, 5, 6, 1000};
        for (String text : texts) {
            for (int number : steps) {
                HaltingDecider x = Checks.machine(text);
                HaltingDecider fresh = Checks.machine(text);
                x.step(number);
                String face = Checks.faceOf(x);
                CHECKS.due("21: haltingTime of " + text, x.haltingTime(7), fresh.haltingTime(7));
                CHECKS.due("22: cycleStart of " + text, x.cycleStart(20), fresh.cycleStart(20));
                CHECKS.due("23: cycleLength of " + text, x.cycleLength(20), fresh.cycleLength(20));
                CHECKS.due("24: driftPeriod of " + text, x.driftPeriod(20), fresh.driftPeriod(20));
                CHECKS.due("25: driftOffset of " + text, x.driftOffset(20), fresh.driftOffset(20));
                CHECKS.due("26: backwardDepth of " + text, x.backwardDepth(8), fresh.backwardDepth(8));
                CHECKS.due("27: closedSet of " + text, x.closedSet(3), fresh.closedSet(3));
                CHECKS.due("28: decide of " + text, x.decide(20), fresh.decide(20));
                CHECKS.due("21: the state of " + text + " after them", Checks.faceOf(x), face);
            }
        }
    }

    /** Each search as the first one of an object, and after the same one with another limit. */
    private static void searchesDoNotUseOneAnother() {
        CHECKS.due("21: haltingTime(6) alone", Checks.machine("1RB1LB_1LA1RZ").haltingTime(6), 6);
        CHECKS.due("22: cycleStart(20) alone", Checks.machine("1LC1RB_0RA0RC_1LB0LB").cycleStart(20), 8);
        CHECKS.due("23: cycleLength(20) alone", Checks.machine("1LC1RB_0RA0RC_1LB0LB").cycleLength(20), 12);
        CHECKS.due("24: driftPeriod(11) alone", Checks.machine("1RB1LB_1LA0RB").driftPeriod(11), 3);
        CHECKS.due("25: driftOffset(11) alone", Checks.machine("1RB1LB_1LA0RB").driftOffset(11), 1);
        CHECKS.due("25: driftOffset(10) alone", Checks.machine("1RB1LB_1LA0RB").driftOffset(10), NONE);
        int[] limits = {200, 1, 200, 5, 6, 10, 11, 19, 20, 5, 19, 10, 200};
        HaltingDecider x = new HaltingDecider();
        for (int limit : limits) {
            Checks.loadText(x, "1RB1LB_1LA1RZ");
            CHECKS.due("21: haltingTime(" + limit + ")", x.haltingTime(limit), limit >= 6 ? 6 : NONE);
            Checks.loadText(x, "1LC1RB_0RA0RC_1LB0LB");
            CHECKS.due("22: cycleStart(" + limit + ")", x.cycleStart(limit), limit >= 20 ? 8 : NONE);
        }
        x = Checks.machine("1LC1RB_0RA0RC_1LB0LB");
        for (int limit : limits) {
            CHECKS.due("23: cycleLength(" + limit + ")", x.cycleLength(limit), limit >= 20 ? 12 : NONE);
        }
        x = Checks.machine("1RB1LB_1LA0RB");
        for (int limit : limits) {
            CHECKS.due("24: driftPeriod(" + limit + ")", x.driftPeriod(limit), limit >= 11 ? 3 : NONE);
        }
        for (int limit : limits) {
            CHECKS.due("25: driftOffset(" + limit + ")", x.driftOffset(limit), limit >= 11 ? 1 : NONE);
        }
    }

    // Promises 22 and 23: "with t2 not greater than that number", "NONE if the machine does not cycle
    // within that number of steps".

    private static void cycleAtTheLimit() {
        cycles("0RB---_0LA---", 0, 2);
        cycles("0LB---_0RA---", 0, 2);
        cycles("0RB---_0RC---_0LB---", 1, 2);
        cycles("1LB0LB_0RA---", 0, 4);
        cycles("0LB0RB_0RD---_0LE0RE_0LB0LC_1LA1LA", 1, 2);
        cycles("1LB0LD_0RD---_1LA1LA_0RC0LB", 6, 6);
    }

    private static void cycleAtTheLastLimit() {
        cycles("1RB0RB_1RC1LA_1LD0LE_1RA1LC_1LD1LD", 195, 4);
        cycles("1RB0LC_1RC1RE_1LA0LD_1LA0RA_1RD1LB", 198, 2);
        // From 199 to 201 and from 137 to 201.
        noCycle("1RB0LA_0RE0RD_1LC1LA_0RB1LE_0RC1LB");
        noCycle("1RB0RB_0RC0LC_1RE0LD_0LA1LC_1LD1RB");
    }

    // CYCLE: "the configurations are equal (same state, same head position, same tape)".

    /** At time 2 the head and the tape are as at the start, but the state is C. */
    private static void cycleNeedsTheSameState() {
        cycles("0RB---_0LC---_0RD---_0LA---", 0, 4);
    }

    /** The state and the tape are always the same. */
    private static void cycleNeedsTheSameHead() {
        noCycle("0RA---");
        noCycle("0LA---");
    }

    /** At time 2 the state and the head are as at the start, but both cells hold 1. */
    private static void cycleNeedsTheSameTape() {
        cycles("1RB1RB_1LA1LA", 2, 2);
        cycles("1LB1LB_1RA1RA", 2, 2);
        // Only the far cell of the two differs, the one that the head is not on.
        cycles("0RB0RB_1LA1LA", 2, 2);
    }

    /** "for the smallest such t2": also if the limit lets the cycle come round many times. */
    private static void firstCycleIsFound() {
        HaltingDecider x = Checks.machine("0RB---_0RC---_0LB---");
        for (int limit = 3; limit <= 200; limit++) {
            CHECKS.due("22: cycleStart(" + limit + ")", x.cycleStart(limit), 1);
            CHECKS.due("23: cycleLength(" + limit + ")", x.cycleLength(limit), 2);
        }
    }

    /** A machine that has halted stays as it is, but makes no step to a time t2. */
    private static void haltingIsNoCycle() {
        noCycle("------");
        noCycle("1RZ---");
        noCycle("1RB---_1LZ---");
        noCycle("0RB---_0LC---_------");
    }

    // TRANSLATED CYCLE: "Time 0 is both."

    private static void timeZeroIsBothRecords() {
        driftsOneWay("0RA---", 0, 1, 1);
        driftsOneWay("0LA---", 0, 1, -1);
    }

    // Promises 24 and 25: "the smallest t2 not greater than that number", "NONE if no drift is found
    // within that number of steps".

    private static void driftAtTheLimit() {
        drifts("0RA---", 0, 1, 1);
        drifts("1RB---_1RA---", 0, 2, 2);
        drifts("0RB---_0RC---_0RD---_0RE---_0RA---", 0, 5, 5);
        drifts("1LB0RA_1RA0RZ", 0, 3, 1);
        drifts("1RB1LB_1LA0RB", 8, 11, 1);
    }

    private static void driftAtTheLastLimit() {
        drifts("1RB0LA_0RC1LB_1RD1RC_1LA1LD", 132, 200, -2);
        drifts("1RB0RB_0LE0LC_1RD0RA_1RD0LB_1RA1LE", 8, 200, 4);
        drifts("1RB1LA_1LC1RD_1LC1LE_1RA1RD_0RA0LC", 199, 200, -1);
        // From 136 to 201 and from 151 to 201.
        noDrift("1RB0LE_1LC0LD_---1LE_1LB1RA_0RA1LA");
        noDrift("1RB0LE_0LD0RE_1LC0LZ_0LA1RE_1LA0RD");
    }

    /** "greater than the head positions at all earlier times": to come back to the greatest is none. */
    private static void recordsAreStrict() {
        noDrift("0RB---_0LA---");
        // At time 4 the head is on the farthest cell again, at time 5 a cell farther.
        drifts("1LB0LB_0LC0RC_0RA1RB", 2, 5, -1);
    }

    private static void driftNeedsTheSameState() {
        drifts("0RB---_0RB---", 1, 2, 1);
        drifts("0RB---_0RC---_0RB---", 1, 3, 2);
        drifts("0RB---_0RC---_0RD---_0RD---", 3, 4, 1);
    }

    // "for each cell c from m to p1, the symbol of cell c at time t1 equals the symbol of cell
    // c + p2 - p1 at time t2". The cell p1 itself was never visited at a record, and holds 0.

    /** At time 3 A is on a record for the second time, and only the cell m differs; then it halts. */
    private static void cellAtTheFarEndIsCompared() {
        noDrift("1RB1LA_1LA---");
        drifts("0RB0LB_1LA0LB", 5, 8, -1);
    }

    /** The cell next to m holds 0 at t1, and 1 at t2. */
    private static void cellBehindTheFarEndIsNot() {
        drifts("1RA---", 0, 1, 1);
        drifts("1RB0RB_1LB1RB", 1, 4, 1);
    }

    /** "the smallest head position at any time from t1 to t2": the times before t1 do not matter. */
    private static void farEndIsOfTheTimesBetween() {
        drifts("1RB---_0RB---", 1, 2, 1);
        drifts("0RB---_1RB---", 1, 2, 1);
        // Here the head goes back between the two records, and what it finds there must agree.
        drifts("1RB1LB_1LA0RB", 8, 11, 1);
    }

    /** "the one with the smallest t2": also if the limit lets many follow. */
    private static void firstDriftIsFound() {
        HaltingDecider x = Checks.machine("1RB---_0RC---_0RB---");
        for (int limit = 3; limit <= 200; limit++) {
            CHECKS.due("24: driftPeriod(" + limit + ")", x.driftPeriod(limit), 2);
            CHECKS.due("25: driftOffset(" + limit + ")", x.driftOffset(limit), 2);
        }
        drifts("1RB---_0RC---_0RB---", 1, 3, 2);
    }

    /** "The machine must not have halted by time t2: only times that are reached are considered." */
    private static void onlyTimesThatAreReached() {
        noDrift("------");
        noDrift("1RZ---");
        noDrift("1RB---_1RZ---");
        noDrift("1RB---_------");
        noDrift("1RB---_1RC---_1RD---_1RE---_1RZ---");
    }

    /** "negative for a left drift", and as far as five states go in a period. */
    private static void offsetsOfBothSigns() {
        driftsOneWay("0LB---_0LC---_0LD---_0LE---_0LA---", 0, 5, -5);
        driftsOneWay("0RB---_0RC---_0RD---_0RE---_0RA---", 0, 5, 5);
        HaltingDecider x = Checks.machine("1LA---");
        CHECKS.due("24: driftPeriod(1) is not negative", x.driftPeriod(1), 1);
        CHECKS.due("25: driftOffset(1)", x.driftOffset(1), -1);
    }
}
