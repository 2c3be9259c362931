/**
 * Promises 26 to 28, and BACKWARD REASONING and CLOSED POSITION SET of the description: each sentence
 * that names a boundary has a method of its own.
 */
public final class BoundaryProofTest {
    private static final Checks CHECKS = new Checks();
    private static final int OUT_OF_RANGE = -1002;
    private static final int NONE = -1005;
    private static final int UNKNOWN = 0, HALTS = 1, CYCLES = 2, DRIFTS = 3, REFUTED = 4, CLOSED = 5;
    private static final int MIN = Integer.MIN_VALUE;
    private static final int MAX = Integer.MAX_VALUE;
    /** Its closed sets have every local configuration that five states can have. */
    private static final String FULL = "0LB0LA_1RC1LD_0LE0RC_1LA0LD_1LE1LB";
    private static final String DEPTH_EIGHT = "0LC1RB_0RB0LA_0RA---";
    /** The depth is 9; the closed set exists from window size 4 on; a drift is found at time 23. */
    private static final String DEPTH_NINE = "1LE1RD_1LA0RZ_1RE0LE_0RB0LD_1LC0RA";

    public static void main(String[] args) {
        depthLimitsFrom1To8();
        depthLimitIsCheckedFirst();
        everyDepthAtItsLimit();
        depthZero();
        bothKindsOfHaltingBegin();
        startMatchesAtDepthZero();
        startMatchesAtAGreaterDepth();
        matchNeedsStateZero();
        matchNeedsAllKnownCellsZero();
        unknownCellFits();
        knownCellFitsOrNot();
        headCellGetsTheSymbolRead();
        neverMoreThan300();
        windowsFrom1To3();
        windowIsCheckedFirst();
        firstLocalConfigurationCanFail();
        smallestAndFullSets();
        setsBeginWithZerosAlone();
        handledAgainWhenASetGrows();
        failsWithASmallWindow();
        decideLimitsFrom1To200();
        haltsWithinTheLimit();
        cyclesWithinTheLimit();
        driftsWithinTheLimit();
        refutedForDepthEight();
        closedForWindowsUpToThree();
        firstThatApplies();
        everyChangeOfTheMachineCounts();
        CHECKS.finish();
    }

    /** The depth is found from its own limit on, and NONE before. */
    private static void depth(String text, int depth) {
        HaltingDecider x = Checks.machine(text);
        for (int limit = 1; limit <= 8; limit++) {
            CHECKS.due("26: backwardDepth(" + limit + ") of " + text, x.backwardDepth(limit), limit >= depth ? depth : NONE);
        }
    }

    private static void noDepth(String text) {
        depth(text, 9);
    }

    private static void closed(String text, int one, int two, int three) {
        HaltingDecider x = Checks.machine(text);
        CHECKS.due("27: closedSet(1) of " + text, x.closedSet(1), one);
        CHECKS.due("27: closedSet(2) of " + text, x.closedSet(2), two);
        CHECKS.due("27: closedSet(3) of " + text, x.closedSet(3), three);
        CHECKS.due("27: closedSet(2) again", x.closedSet(2), two);
        CHECKS.due("27: closedSet(1) again", x.closedSet(1), one);
    }

    private static void verdict(String text, int limit, int want) {
        CHECKS.due("28: decide(" + limit + ") of " + text, Checks.machine(text).decide(limit), want);
    }

    // Promise 26: "limit: 1 to 8", "OUT_OF_RANGE if limit is out of range (checked first)".

    private static void depthLimitsFrom1To8() {
        HaltingDecider x = Checks.machine("1RA1LA");
        CHECKS.due("26: backwardDepth(1)", x.backwardDepth(1), 0);
        CHECKS.due("26: backwardDepth(8)", x.backwardDepth(8), 0);
        refuseEveryWrongDepth(x);
    }

    private static void refuseEveryWrongDepth(HaltingDecider x) {
        int[] limits = {MIN, MIN + 1, -65535, -255, -8, -2, -1, 0, 9, 10, 200, 257, 65537, MAX - 1, MAX};
        for (int limit : limits) {
            CHECKS.due("26: backwardDepth(" + limit + ")", x.backwardDepth(limit), OUT_OF_RANGE);
        }
    }

    private static void depthLimitIsCheckedFirst() {
        refuseEveryWrongDepth(Checks.machine("------"));
        refuseEveryWrongDepth(Checks.machine("0RA---"));
        refuseEveryWrongDepth(Checks.machine(DEPTH_EIGHT));
    }

    // BACKWARD REASONING: "the smallest depth d not greater than the limit at which there are no
    // partial configurations. It does not exist if there is no such d".

    private static void everyDepthAtItsLimit() {
        depth("1LA1RA_---1LZ", 1);
        depth("0RB---_0LA0LZ", 2);
        depth("1LB0RA_1RA0RZ", 3);
        depth("0RA1RA_0RC1RA_---0LB", 4);
        depth("0LC0RB_0LA---_0RA1RZ", 5);
        depth("1RC0RB_0LC0LA_1LA---", 6);
        depth("0LB0RB_0RD---_0LE0RE_0LB0LC_1LA1LA", 7);
        depth(DEPTH_EIGHT, 8);
        depth("0LC1RE_---1LE_0RD0LB_0LC0RB_---1RD", 8);
        // There are none at depth 9, which no limit allows.
        noDepth(DEPTH_NINE);
        noDepth("0LA0LA_1LD---_0RD1LA_1LC0RB");
        // There are some at every depth, all with a 1 that the start does not have.
        noDepth("0RA---");
    }

    /** Nothing halts, so that there are none from the beginning. */
    private static void depthZero() {
        depth("0RA0RA", 0);
        depth("1RB1LB_1LA1RB", 0);
        depth(FULL, 0);
    }

    /** "for each state q and each symbol s that has no transition or whose next state is HALT". */
    private static void bothKindsOfHaltingBegin() {
        depth("1RA1LA_---1RA", 1);
        depth("1RA1LA_1RA---", 1);
        depth("1RA1LA_0LZ1RA", 1);
        depth("1RA1LA_1RA0LZ", 1);
        depth("1RA1LA_------", 1);
        depth("1RA1LA_1LZ1RZ", 1);
        depth("1RA1LA_1RB1RB_1RC1RC_1RD1RD_1RE1RE", 0);
        depth("1RA1LA_1RA1RA_1RA1RA_1RA1RA_1RA---", 1);
    }

    // "if a partial configuration of a smaller depth matches the start".

    private static void startMatchesAtDepthZero() {
        noDepth("------");
        noDepth("1RZ---");
        // Without the match there would be none left at depth 1.
        noDepth("---0LZ");
        noDepth("0LZ1LZ");
        noDepth("---0RB_1LB1LB");
        noDepth("0LZ1LB_1RB0LB");
    }

    private static void startMatchesAtAGreaterDepth() {
        // Matches at depth 1; without the match there would be none left at depth 2.
        noDepth("1LB1LB_---1RA");
        noDepth("1LB1LB_------");
        // Matches at depth 3; without the match there would be none left at depth 4.
        noDepth("1RB1RB_1LA1LZ");
    }

    /** "if its state is 0": B's missing transition is known with a 0 alone. */
    private static void matchNeedsStateZero() {
        depth("1LA1RA_---1LZ", 1);
        depth("1LA0LA_---1LA", 1);
        depth("1LA0LA_---0RA_0RB1LZ", 2);
    }

    /** "and all its known cells are 0": the cell under the head is not enough, nor is cell 0. */
    private static void matchNeedsAllKnownCellsZero() {
        depth("1LB0LB_0RA---", 2);
        depth("0LB0RA_0RA---", 2);
        depth("1RA0LB_1LZ1RA", 2);
        depth("1RC1RB_---0RC_0LC0RC", 2);
    }

    // "the cell h - 1 for RIGHT, or h + 1 for LEFT, is unknown or known with symbol w".

    /** With a transition that writes a 1 or a 0, to the right or to the left, for ever. */
    private static void unknownCellFits() {
        noDepth("1LA---");
        noDepth("0LA---");
        noDepth("1RA---");
        noDepth("0RA---");
    }

    private static void knownCellFitsOrNot() {
        // Cell 0 is known with 1, and the transition that would go back over it writes 0.
        depth("1LB0LB_0RA---", 2);
        depth("0RB1LZ_0LA0LA", 2);
        // Cell 0 is known with 1, and the transition writes 1: from there on the start is found.
        noDepth("1RB1RB_1LA1LZ");
        noDepth("1LB---_1LB0RA");
    }

    /** "and that cell known with symbol s": not with the symbol that it was known with. */
    private static void headCellGetsTheSymbolRead() {
        depth("0RA1RA_0RC1RA_---0LB", 4);
        depth("0LC0RB_0LA---_0RA1RZ", 5);
        noDepth("1RB---_1LA0RZ");
        noDepth("1RB---_1LA---");
    }

    /**
     * "or if some smaller depth has more than 300 partial configurations": no machine has more than
     * 128 at a depth below 8, so that this sentence changes no answer. If every transition fits,
     * which is the most there can be, they are counted by the next states alone.
     */
    private static void neverMoreThan300() {
        int[] zero = new int[21];
        int[] one = new int[21];
        int pairs = 0;
        for (int a = 0; a <= 5; a++) {
            for (int b = a; b <= 5; b++) {
                zero[pairs] = a;
                one[pairs++] = b;
            }
        }
        int most = 0;
        // State 5 stands for halting. A machine of fewer states counts as one of five, whose other states
        // lead to themselves alone.
        for (int number = 0; number < 21 * 21 * 21 * 21 * 21; number++) {
            most = Math.max(most, mostAtOneDepth(number, zero, one));
        }
        CHECKS.due("26: the most partial configurations at a depth below 8", most, 128);
    }

    private static int mostAtOneDepth(int number, int[] zero, int[] one) {
        int[] first = new int[5];
        int[] second = new int[5];
        // The counts of the partial configurations by their states; those of depth -1 stand in halting.
        int[] counts = {0, 0, 0, 0, 0, 1};
        int rest = number;
        for (int state = 0; state < 5; state++) {
            first[state] = zero[rest % 21];
            second[state] = one[rest % 21];
            rest /= 21;
        }
        int most = 0;
        for (int depth = 0; depth < 8; depth++) {
            int[] before = new int[6];
            int sum = 0;
            for (int state = 0; state < 5; state++) {
                before[state] = counts[first[state]] + counts[second[state]];
                sum += before[state];
            }
            counts = before;
            most = Math.max(most, sum);
        }
        return most;
    }

    // Promise 27: "n: window size, 1 to 3", "OUT_OF_RANGE if n is out of range (checked first)".

    private static void windowsFrom1To3() {
        closed("1RA---", 2, 3, 4);
        refuseEveryWrongWindow(Checks.machine("1RA---"));
    }

    private static void refuseEveryWrongWindow(HaltingDecider x) {
        int[] windows = {MIN, MIN + 1, -65535, -255, -3, -2, -1, 0, 4, 5, 8, 200, 257, 65537, MAX - 1, MAX};
        for (int n : windows) {
            CHECKS.due("27: closedSet(" + n + ")", x.closedSet(n), OUT_OF_RANGE);
        }
    }

    private static void windowIsCheckedFirst() {
        refuseEveryWrongWindow(Checks.machine("------"));
        refuseEveryWrongWindow(Checks.machine("1RZ---"));
        refuseEveryWrongWindow(Checks.machine(FULL));
    }

    // CLOSED POSITION SET: "For each local configuration that was added, including the first one: if
    // there is no transition for its state and symbol, or the next state is HALT, the search fails."

    private static void firstLocalConfigurationCanFail() {
        closed("------", NONE, NONE, NONE);
        closed("---1RA", NONE, NONE, NONE);
        closed("1RZ1RA", NONE, NONE, NONE);
        closed("1LZ1LA", NONE, NONE, NONE);
        // The second one and a later one.
        closed("0RB---_------", NONE, NONE, NONE);
        closed("0RB---_1LZ---", NONE, NONE, NONE);
        closed("1RB1LB_1LA1RZ", NONE, NONE, NONE);
        // What is not met does not matter.
        closed("0RA---", 1, 1, 1);
        closed("0RA1RZ_------", 1, 1, 1);
    }

    /** "the closed set has as many elements as there are local configurations": from one to all. */
    private static void smallestAndFullSets() {
        closed("0RA---", 1, 1, 1);
        closed("0LA---", 1, 1, 1);
        closed(FULL, 5 * 2 * 2 * 2, 5 * 2 * 4 * 4, 5 * 2 * 8 * 8);
        closed("1RB0LC_0LD0RB_0LA1LD_1RE1LA_1LC0RE", 40, 160, 640);
        closed("1LB0RE_1RE0LA_1LA0RD_0LB1RC_1RD0RC", 40, 12, 13);
    }

    /** "L and R each containing only the string of n zeros": nothing but zeros comes from outside. */
    private static void setsBeginWithZerosAlone() {
        closed("1RA1LA", 2, 3, 4);
        closed("1LA1RA", 2, 3, 4);
        closed("0RB---_0LA---", 2, 2, 2);
        closed("0LB---_0RA---", 2, 2, 2);
    }

    /** "when L or R grows, local configurations that were handled before are handled again". */
    private static void handledAgainWhenASetGrows() {
        // If they were not, there would be one fewer: for L, then for R, and its mirror image.
        closed("0RB1LA_1LA1RA", 6, 9, 10);
        closed("0LB1RA_1RA1LA", 6, 9, 10);
        closed("1LB1LB_1RA1LB", 5, 8, 11);
        closed("1RB1RB_1LA1RB", 5, 8, 11);
        closed("0LC1LC_1LA0RA_1RA1RB", 20, 28, 36);
        closed("0RC1RC_1RA0LA_1LA1LB", 20, 28, 36);
    }

    private static void failsWithASmallWindow() {
        closed("1LC1LA_0LA1RB_1RB---", NONE, 19, 32);
        closed("1RB0LB_1LA0RC_1RB---", NONE, NONE, 17);
        // With window size 4 the set would have 41 and 27 elements.
        closed("1LC---_1RA0RC_1RB0LC", NONE, NONE, NONE);
        closed("1RB1LC_1LA0RB_0LB---", NONE, NONE, NONE);
    }

    // Promise 28: "limit: 1 to 200", "OUT_OF_RANGE if limit is out of range".

    private static void decideLimitsFrom1To200() {
        String[] texts = {"------", "0RA---", "0RB---_0LA---", FULL, "1LC---_1RA0RC_1RB0LC"};
        int[] limits = {MIN, MIN + 1, -65535, -255, -200, -2, -1, 0, 201, 202, 257, 65537, MAX - 1, MAX};
        for (String text : texts) {
            for (int limit : limits) {
                verdict(text, limit, OUT_OF_RANGE);
            }
        }
        verdict("0RA---", 1, DRIFTS);
        verdict("0RA---", 200, DRIFTS);
    }

    /** "HALTS if it halts within limit steps". */
    private static void haltsWithinTheLimit() {
        verdict("------", 1, HALTS);
        verdict("1RZ---", 1, HALTS);
        verdict("1RB---_1RZ---", 1, UNKNOWN);
        verdict("1RB---_1RZ---", 2, HALTS);
        verdict("1RB---_------", 1, HALTS);
        verdict("1RB1LB_1LA1RZ", 5, UNKNOWN);
        verdict("1RB1LB_1LA1RZ", 6, HALTS);
        verdict("1RB0LE_1LD0RC_1LB1LA_1LA1LC_---0RC", 199, UNKNOWN);
        verdict("1RB0LE_1LD0RC_1LB1LA_1LA1LC_---0RC", 200, HALTS);
        verdict("1RB0LE_1LD0RC_1LB1LA_1LA1LC_1RZ0RC", 200, UNKNOWN);
    }

    /** "CYCLES if it cycles within limit steps". */
    private static void cyclesWithinTheLimit() {
        verdict("0RB---_0LA---", 1, REFUTED);
        verdict("0RB---_0LA---", 2, CYCLES);
        verdict("0RB---_0LA---", 200, CYCLES);
        verdict("1RB0LC_1RC1RE_1LA0LD_1LA0RA_1RD1LB", 199, REFUTED);
        verdict("1RB0LC_1RC1RE_1LA0LD_1LA0RA_1RD1LB", 200, CYCLES);
        verdict("1RB0LA_0RE0RD_1LC1LA_0RB1LE_0RC1LB", 200, REFUTED);
    }

    /** "DRIFTS if a drift is found within limit steps". */
    private static void driftsWithinTheLimit() {
        verdict("0RB---_0RA---", 1, CLOSED);
        verdict("0RB---_0RA---", 2, DRIFTS);
        verdict("0LB---_0LA---", 1, CLOSED);
        verdict("0LB---_0LA---", 2, DRIFTS);
        verdict("1RB1LA_1LC1RD_1LC1LE_1RA1RD_0RA0LC", 199, REFUTED);
        verdict("1RB1LA_1LC1RD_1LC1LE_1RA1RD_0RA0LC", 200, DRIFTS);
        verdict("1RB0LE_1LC0LD_---1LE_1LB1RA_0RA1LA", 200, CLOSED);
    }

    /** "REFUTED if the backward depth for limit 8 exists": whatever limit decide is called with. */
    private static void refutedForDepthEight() {
        verdict("0RB0RB_0LA0LA", 1, REFUTED);
        verdict("0LC1RE_---1LE_0RD0LB_0LC0RB_---1RD", 1, REFUTED);
        verdict(DEPTH_EIGHT, 1, REFUTED);
        verdict(DEPTH_NINE, 1, UNKNOWN);
        verdict(DEPTH_NINE, 22, UNKNOWN);
        verdict(DEPTH_NINE, 23, DRIFTS);
    }

    /** "CLOSED if the closed set exists for window size 1, 2 or 3; otherwise UNKNOWN". */
    private static void closedForWindowsUpToThree() {
        verdict("0LC0RA_---0RB_1RA1LC", 200, CLOSED);
        verdict("1LC1LA_0LA1RB_1RB---", 200, CLOSED);
        verdict("1RB0LB_1LA0RC_1RB---", 200, CLOSED);
        // Window size 4 would be the first.
        verdict("1LC---_1RA0RC_1RB0LC", 18, UNKNOWN);
        verdict("1LC---_1RA0RC_1RB0LC", 19, DRIFTS);
        verdict("1RB---_0RC0RB_1LC1LA", 200, UNKNOWN);
    }

    /** "The first of these that applies is the verdict": each of them with a later one that applies. */
    private static void firstThatApplies() {
        HaltingDecider x = Checks.machine("0RB---_0LA---");
        CHECKS.due("26: backwardDepth(8)", x.backwardDepth(8), 2);
        CHECKS.due("27: closedSet(1)", x.closedSet(1), 2);
        CHECKS.due("28: CYCLES before REFUTED and CLOSED", x.decide(2), CYCLES);
        CHECKS.due("28: REFUTED before CLOSED", x.decide(1), REFUTED);
        x = Checks.machine("0RA1RA_0RC1RA_---0LB");
        CHECKS.due("26: backwardDepth(8)", x.backwardDepth(8), 4);
        CHECKS.due("27: closedSet(1)", x.closedSet(1), 1);
        CHECKS.due("28: DRIFTS before REFUTED and CLOSED", x.decide(1), DRIFTS);
        x = Checks.machine("0RA---");
        CHECKS.due("27: closedSet(1)", x.closedSet(1), 1);
        CHECKS.due("28: DRIFTS before CLOSED", x.decide(1), DRIFTS);
    }

    /** The searches speak of the machine as it is: what an earlier machine left behind is not seen. */
    private static void everyChangeOfTheMachineCounts() {
        HaltingDecider x = Checks.machine("1RB1LB_1LA1RZ");
        answers(x, NONE, NONE, HALTS);
        x.setTransition(1, 1, 1, 1, 1);
        answers(x, 0, 11, DRIFTS);
        x.removeTransition(0, 0);
        answers(x, NONE, NONE, HALTS);
        Checks.loadText(x, FULL);
        answers(x, 0, 40, REFUTED);
        x.setStates(5);
        answers(x, NONE, NONE, HALTS);
        x.setTransition(0, 0, 0, 0, 0);
        answers(x, NONE, 1, DRIFTS);
        Checks.loadText(x, "1LA1RA_---1LZ");
        answers(x, 1, 2, DRIFTS);
        Checks.loadText(x, "1LA1RX_---1LZ");
        answers(x, 1, 2, DRIFTS);
        Checks.loadText(x, "0RA0RA");
        answers(x, 0, 1, DRIFTS);
    }

    private static void answers(HaltingDecider x, int depth, int closedSet, int verdict) {
        CHECKS.due("26: backwardDepth(8) of the changed machine", x.backwardDepth(8), depth);
        CHECKS.due("27: closedSet(1) of the changed machine", x.closedSet(1), closedSet);
        CHECKS.due("28: decide(200) of the changed machine", x.decide(200), verdict);
    }
}
