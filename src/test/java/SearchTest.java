/** Promises 21 to 28: the searches and the verdict. */
public final class SearchTest {
    private static final Checks CHECKS = new Checks();
    private static final int OUT_OF_RANGE = -1002;
    private static final int NONE = -1005;
    private static final int[] WRONG_LIMITS = {Integer.MIN_VALUE, -200, -1, 0, 201, 1000, Integer.MAX_VALUE};

    public static void main(String[] args) {
        limits();
        haltingTimes();
        cycles();
        drifts();
        driftIsTheMirrorImage();
        backwardDepths();
        closedSets();
        verdicts();
        verdictsInTheirOrder();
        currentConfigurationStays();
        searchesLeaveNoTrace();
        CHECKS.finish();
    }

    private static void limits() {
        HaltingDecider x = Checks.machine("1RB1LB_1LA1RZ");
        for (int limit : WRONG_LIMITS) {
            CHECKS.due("21: haltingTime(" + limit + ")", x.haltingTime(limit), OUT_OF_RANGE);
            CHECKS.due("22: cycleStart(" + limit + ")", x.cycleStart(limit), OUT_OF_RANGE);
            CHECKS.due("23: cycleLength(" + limit + ")", x.cycleLength(limit), OUT_OF_RANGE);
            CHECKS.due("24: driftPeriod(" + limit + ")", x.driftPeriod(limit), OUT_OF_RANGE);
            CHECKS.due("25: driftOffset(" + limit + ")", x.driftOffset(limit), OUT_OF_RANGE);
            CHECKS.due("26: backwardDepth(" + limit + ")", x.backwardDepth(limit), OUT_OF_RANGE);
            CHECKS.due("27: closedSet(" + limit + ")", x.closedSet(limit), OUT_OF_RANGE);
            CHECKS.due("28: decide(" + limit + ")", x.decide(limit), OUT_OF_RANGE);
        }
        CHECKS.due("26: backwardDepth(9)", x.backwardDepth(9), OUT_OF_RANGE);
        CHECKS.due("27: closedSet(4)", x.closedSet(4), OUT_OF_RANGE);
    }

    private static void haltingTimes() {
        String[] texts = {"1RB1LB_1LA1RZ", "1RB1RZ_1LB0RC_1LC1LA", "1RB1LB_1LA0LC_1RZ1LD_1RD0RA", "1RZ---", "1RB---_------",
            "1RB---_0RC0LB_1RD1RE_1LB1LD_1RA1RE", "1RB1RZ_0RC0LB_1RD1RE_1LB1LD_1RA1RE"};
        int[] times = {6, 21, 107, 1, 1, 199, 200};
        for (int i = 0; i < texts.length; i++) {
            HaltingDecider x = Checks.machine(texts[i]);
            for (int limit = 1; limit <= 200; limit++) {
                CHECKS.due("21: haltingTime(" + limit + ") of " + texts[i], x.haltingTime(limit),
                        limit < times[i] ? NONE : times[i]);
            }
        }
        HaltingDecider x = Checks.machine("---1RA");
        CHECKS.due("21: haltingTime(1) without transition", x.haltingTime(1), 0);
        CHECKS.due("21: haltingTime(200) without transition", x.haltingTime(200), 0);
        // Without its last transition this machine halts a step earlier, in the state that has none.
        x = Checks.machine("1RB1LB_1LA0LC_---1LD_1RD0RA");
        CHECKS.due("21: haltingTime(105)", x.haltingTime(105), NONE);
        CHECKS.due("21: haltingTime(106)", x.haltingTime(106), 106);
    }

    private static void cycle(String text, int start, int length) {
        HaltingDecider x = Checks.machine(text);
        for (int limit = 1; limit <= 200; limit++) {
            boolean isFound = start >= 0 && limit >= start + length;
            CHECKS.due("22: cycleStart(" + limit + ") of " + text, x.cycleStart(limit), isFound ? start : NONE);
            CHECKS.due("23: cycleLength(" + limit + ") of " + text, x.cycleLength(limit), isFound ? length : NONE);
        }
    }

    private static void cycles() {
        // A and B change places for ever; the head goes to and fro over zeros.
        cycle("0RB---_0LA---", 0, 2);
        // The first step only reaches the pair that goes on for ever.
        cycle("0RB---_0RC---_0LB---", 1, 2);
        // The ones of the first two steps are not there yet at times 0 and 1.
        cycle("1RB1RB_1LA1LA", 2, 2);
        cycle("1LC1RB_0RA0RC_1LB0LB", 8, 12);
        cycle("1LC0RB_1LC0LA_0LD1RD_1RA1RB", 4, 8);
        cycle("0LD1LB_1RD1RD_0RB1LD_1LC0RA", 9, 10);
        // Found at times 199 and 200, the last ones that a limit allows.
        cycle("1RB0RB_1RC1LA_1LD0LE_1RA1LC_1LD1LD", 195, 4);
        cycle("1RB0LC_1RC1RE_1LA0LD_1LA0RA_1RD1LB", 198, 2);
        // No cycles: it halts, it drifts, it sweeps, it has no transition.
        cycle("1RB1LB_1LA1RZ", -1, 0);
        cycle("0RA0RA", -1, 0);
        cycle("1RB1LA_1LA1RB", -1, 0);
        cycle("------", -1, 0);
    }

    private static void drift(String text, int found, int period, int offset) {
        HaltingDecider x = Checks.machine(text);
        for (int limit = 1; limit <= 200; limit++) {
            boolean isFound = found >= 0 && limit >= found;
            CHECKS.due("24: driftPeriod(" + limit + ") of " + text, x.driftPeriod(limit), isFound ? period : NONE);
            CHECKS.due("25: driftOffset(" + limit + ") of " + text, x.driftOffset(limit), isFound ? offset : NONE);
        }
    }

    private static void drifts() {
        drift("0RA---", 1, 1, 1);
        drift("1LA---", 1, 1, -1);
        drift("1RB---_1RA---", 2, 2, 2);
        drift("0LB---_1LC---_0LA---", 3, 3, -3);
        // State B goes on alone from time 1, before state A could come again.
        drift("1RB---_1RB---", 2, 1, 1);
        // The cell to the left of the head is read again, so that it must agree as well.
        drift("1RB1LB_1LA0RB", 11, 3, 1);
        drift("1LB1RB_1RA0LB", 11, 3, -1);
        drift("1RC0LB_0RB1RA_1RD0RC_1LA1LD", 13, 13, 5);
        drift("1LB0RC_0LD1LA_0LB0LA_1RB1RD", 11, 11, -3);
        drift("0LD0LC_0RA1RB_0RB1LD_1LC0LC", 167, 88, 4);
        // Found at time 200, the last one that a limit allows.
        drift("1RB0LA_0RC1LB_1RD1RC_1LA1LD", 200, 68, -2);
        drift("1RB0RB_0LE0LC_1RD0RA_1RD0LB_1RA1LE", 200, 192, 4);
        drift("1RB1LA_1LC1RD_1LC1LE_1RA1RD_0RA0LC", 200, 1, -1);
        // No drifts: it cycles, it halts, it sweeps to and fro, it has no transition.
        drift("0RB---_0LA---", -1, 0, 0);
        drift("1RB1LB_1LA1RZ", -1, 0, 0);
        drift("1RB1LA_1LA1RB", -1, 0, 0);
        drift("---1RA", -1, 0, 0);
        // Halts at the second record after the start.
        drift("1RB---_1RZ---", -1, 0, 0);
    }

    private static String mirrored(String text) {
        return text.replace('L', '#').replace('R', 'L').replace('#', 'R');
    }

    private static void driftIsTheMirrorImage() {
        String[] texts = {"1RB1LB_1LA0RB", "1RC0LB_0RB1RA_1RD0RC_1LA1LD", "1RC0RA_1LB1LA_0RB1RC", "1LB0RC_1RA0LC_1RB0LB"};
        for (String text : texts) {
            HaltingDecider x = Checks.machine(text);
            HaltingDecider y = Checks.machine(mirrored(text));
            for (int limit = 1; limit <= 200; limit++) {
                int offset = x.driftOffset(limit);
                CHECKS.due("24: driftPeriod(" + limit + ") of the mirror image of " + text,
                        y.driftPeriod(limit), x.driftPeriod(limit));
                CHECKS.due("25: driftOffset(" + limit + ") of the mirror image of " + text,
                        y.driftOffset(limit), offset == NONE ? NONE : -offset);
            }
        }
    }

    private static void depth(String text, int depth) {
        HaltingDecider x = Checks.machine(text);
        for (int limit = 1; limit <= 8; limit++) {
            CHECKS.due("26: backwardDepth(" + limit + ") of " + text, x.backwardDepth(limit),
                    depth >= 0 && limit >= depth ? depth : NONE);
        }
    }

    private static void backwardDepths() {
        // Nothing halts.
        depth("1RA1LA", 0);
        depth("1RB1LB_1LA1RB", 0);
        // No transition leads to the state that halts, by a missing transition or by HALT.
        depth("1RA1LA_1RA---", 1);
        depth("1RA1LA_0LZ1RA", 1);
        // A state that comes from itself for ever, with a 1 ahead that the start does not have.
        depth("1RA1LA_1RB---", NONE);
        depth("0RB1RA_0LA---", NONE);
        depth("1LB1RA_0RC1LB_1RD1RA_1LZ0LB", 4);
        depth("1RC1LA_1RD1LA_0LB1RC_---1RA", 3);
        depth("0LB0RB_0RD---_0LE0RE_0LB0LC_1LA1LA", 7);
        depth("0LC1RE_---1LE_0RD0LB_0LC0RB_---1RD", 8);
        // The start itself halts, or a machine of the start may: it matches at a smaller depth.
        depth("------", NONE);
        depth("1RB1LB_1LA1RZ", NONE);
        depth("1RA---", NONE);
        depth("0RA---", NONE);
        depth("1RB1LB_1LA0LC_1RZ1LD_1RD0RA", NONE);
    }

    private static void closed(String text, int one, int two, int three) {
        HaltingDecider x = Checks.machine(text);
        CHECKS.due("27: closedSet(1) of " + text, x.closedSet(1), one);
        CHECKS.due("27: closedSet(3) of " + text, x.closedSet(3), three);
        CHECKS.due("27: closedSet(2) of " + text, x.closedSet(2), two);
        CHECKS.due("27: closedSet(1) of " + text + " again", x.closedSet(1), one);
    }

    private static void closedSets() {
        // Over zeros there is one local configuration for each state that is met.
        closed("0RA---", 1, 1, 1);
        closed("0LB---_0RA---", 2, 2, 2);
        // The ones behind the head come into sight one by one.
        closed("1RA---", 2, 3, 4);
        closed("1LA---", 2, 3, 4);
        closed("1LC1LA_0LA1RB_1RB---", NONE, 19, 32);
        closed("1RB0LB_1LA0RC_1RB---", NONE, NONE, 17);
        closed("0LC0RA_---0RB_1RA1LC", 16, 40, 104);
        closed("0LD0LC_0RA1RB_0RB1LD_1LC0LC", 26, 100, 312);
        // Halting and not knowing.
        closed("------", NONE, NONE, NONE);
        closed("1RZ---", NONE, NONE, NONE);
        closed("1RB1LB_1LA1RZ", NONE, NONE, NONE);
        closed("1RB---_0RC0RB_1LC1LA", NONE, NONE, NONE);
    }

    private static void verdict(String text, int limit, int want) {
        CHECKS.due("28: decide(" + limit + ") of " + text, Checks.machine(text).decide(limit), want);
    }

    private static void verdicts() {
        verdict("------", 1, HaltingDecider.HALTS);
        verdict("1RB1LB_1LA0LC_1RZ1LD_1RD0RA", 107, HaltingDecider.HALTS);
        verdict("1RB1LB_1LA0LC_1RZ1LD_1RD0RA", 106, HaltingDecider.UNKNOWN);
        verdict("1RB1RB_1LA1LA", 200, HaltingDecider.CYCLES);
        verdict("0LB---_1LC---_0LA---", 3, HaltingDecider.DRIFTS);
        verdict("1LB1RA_0RC1LB_1RD1RA_1LZ0LB", 200, HaltingDecider.REFUTED);
        verdict("0LC1RE_---1LE_0RD0LB_0LC0RB_---1RD", 1, HaltingDecider.REFUTED);
        verdict("0LC0RA_---0RB_1RA1LC", 200, HaltingDecider.CLOSED);
        verdict("1LC1LA_0LA1RB_1RB---", 200, HaltingDecider.CLOSED);
        verdict("1RB0LB_1LA0RC_1RB---", 200, HaltingDecider.CLOSED);
        verdict("1RB---_0RC0RB_1LC1LA", 200, HaltingDecider.UNKNOWN);
        verdict("1LC0RB_1RZ1RA_1RC1LA", 200, HaltingDecider.UNKNOWN);
    }

    /** The same machine with a greater limit: an earlier verdict takes the place of a later one. */
    private static void verdictsInTheirOrder() {
        verdict("1RB1LB_1LA0RB", 10, HaltingDecider.REFUTED);
        verdict("1RB1LB_1LA0RB", 11, HaltingDecider.DRIFTS);
        verdict("1LC1RB_0RA0RC_1LB0LB", 19, HaltingDecider.REFUTED);
        verdict("1LC1RB_0RA0RC_1LB0LB", 20, HaltingDecider.CYCLES);
        // Missing where it is not met, so that backward reasoning finds the start.
        verdict("0RB---_0RA---", 1, HaltingDecider.CLOSED);
        verdict("0RB---_0RA---", 2, HaltingDecider.DRIFTS);
    }

    private static void currentConfigurationStays() {
        HaltingDecider x = Checks.machine("1RB1LB_1LA0RB");
        x.step(17);
        int head = x.head();
        int ones = x.ones();
        int state = x.state();
        int visited = x.visited();
        Checks.typeAll(x, "1R");
        x.haltingTime(200);
        x.cycleStart(200);
        x.cycleLength(200);
        x.driftPeriod(200);
        x.driftOffset(200);
        x.backwardDepth(8);
        x.closedSet(3);
        x.decide(200);
        CHECKS.due("21: time() stays", x.time(), 17);
        CHECKS.due("21: head() stays", x.head(), head);
        CHECKS.due("21: ones() stays", x.ones(), ones);
        CHECKS.due("21: state() stays", x.state(), state);
        CHECKS.due("21: visited() stays", x.visited(), visited);
        CHECKS.due("21: the typed text stays", x.type(65), 3);
        x = Checks.machine("1RB1LB_1LA1RZ");
        x.step(100);
        CHECKS.due("21: haltingTime(200) after halting", x.haltingTime(200), 6);
        CHECKS.due("21: halted() stays", x.halted(), true);
    }

    /** One object with many machines answers as a new object does for each of them. */
    private static void searchesLeaveNoTrace() {
        String[] texts = {"1RB1LB_1LA0RB", "0RA---", "1RB1LB_1LA1RZ", "0RB---_0LA---", "------",
            "1RB0LB_1LA0RC_1RB---", "0LC1RE_---1LE_0RD0LB_0LC0RB_---1RD", "1LA---"};
        HaltingDecider x = new HaltingDecider();
        for (int i = 0; i < 24; i++) {
            String text = texts[i * 5 % texts.length];
            int limit = 1 + i * 83 % 200;
            HaltingDecider y = Checks.machine(text);
            Checks.loadText(x, text);
            CHECKS.due("28: decide of " + text + " on a used object", x.decide(limit), y.decide(limit));
            CHECKS.due("22: cycleStart of " + text, x.cycleStart(limit), y.cycleStart(limit));
            CHECKS.due("25: driftOffset of " + text, x.driftOffset(limit), y.driftOffset(limit));
            CHECKS.due("26: backwardDepth of " + text, x.backwardDepth(8), y.backwardDepth(8));
            CHECKS.due("27: closedSet of " + text, x.closedSet(2), y.closedSet(2));
            CHECKS.due("21: haltingTime of " + text, x.haltingTime(limit), y.haltingTime(limit));
        }
    }
}
