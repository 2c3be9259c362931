/** Promises 12 to 20: the current configuration. */
public final class RunTest {
    private static final Checks CHECKS = new Checks();
    private static final int OUT_OF_RANGE = -1002;
    private static final int HALTED = -1004;
    /** The best known machines of two, three and four states, whose steps and ones are known. */
    private static final String TWO = "1RB1LB_1LA1RZ";
    private static final String THREE = "1RB1RZ_1LB0RC_1LC1LA";
    private static final String FOUR = "1RB1LB_1LA0LC_1RZ1LD_1RD0RA";
    /** Has no transition at time 4533. */
    private static final String LATE = "1RB0LA_0LC0LD_1RD1LA_1LA1RE_0RC---";

    public static void main(String[] args) {
        knownMachines();
        stepByStep();
        restart();
        stepErrors();
        haltedErrors();
        haltsLate();
        farRight();
        farLeft();
        cells();
        noTransition();
        haltAtOnceByStep();
        CHECKS.finish();
    }

    private static void knownMachines() {
        String[] texts = {TWO, THREE, FOUR};
        int[] steps = {6, 21, 107};
        int[] ones = {4, 5, 13};
        for (int i = 0; i < texts.length; i++) {
            HaltingDecider x = Checks.machine(texts[i]);
            CHECKS.due("13: step(1000) of " + texts[i], x.step(1000), steps[i]);
            CHECKS.due("14: time()", x.time(), steps[i]);
            CHECKS.due("15: state()", x.state(), 9);
            CHECKS.due("16: halted()", x.halted(), true);
            CHECKS.due("19: ones()", x.ones(), ones[i]);
            CHECKS.due("13: step(1) after halting", x.step(1), HALTED);
            CHECKS.due("12: restart()", x.restart(), steps[i]);
        }
    }

    /** The six steps of the machine of the first example, done by hand. */
    private static void stepByStep() {
        HaltingDecider x = Checks.machine(TWO);
        int[] states = {0, 1, 0, 1, 0, 1, 9};
        int[] heads = {0, 1, 0, -1, -2, -1, 0};
        int[] ones = {0, 1, 2, 2, 3, 4, 4};
        int[] visited = {1, 2, 2, 3, 4, 4, 4};
        for (int t = 0; t <= 6; t++) {
            CHECKS.due("14: time()", x.time(), t);
            CHECKS.due("15: state() at " + t, x.state(), states[t]);
            CHECKS.due("16: halted() at " + t, x.halted(), t == 6);
            CHECKS.due("17: head() at " + t, x.head(), heads[t]);
            CHECKS.due("19: ones() at " + t, x.ones(), ones[t]);
            CHECKS.due("20: visited() at " + t, x.visited(), visited[t]);
            CHECKS.due("13: step(1) at " + t, x.step(1), t == 6 ? HALTED : 1);
        }
        for (int position = -3; position <= 2; position++) {
            CHECKS.due("18: cell(" + position + ")", x.cell(position), position >= -2 && position <= 1 ? 1 : 0);
        }
    }

    private static void restart() {
        HaltingDecider x = Checks.machine("1RB1LB_1LA1RB");
        CHECKS.due("12: restart() at once", x.restart(), 0);
        x.step(7);
        x.step(5);
        CHECKS.due("12: restart()", x.restart(), 12);
        CHECKS.due("12: restart() again", x.restart(), 0);
        CHECKS.due("12: time()", x.time(), 0);
        CHECKS.due("12: state()", x.state(), 0);
        CHECKS.due("12: head()", x.head(), 0);
        CHECKS.due("12: ones()", x.ones(), 0);
        CHECKS.due("12: visited()", x.visited(), 1);
        CHECKS.due("12: the machine stays", Checks.textOf(x).equals("1RB1LB_1LA1RB"), true);
        Checks.typeAll(x, "1RA");
        x.restart();
        CHECKS.due("12: the typed text stays", x.type(49), 4);
    }

    private static void stepErrors() {
        HaltingDecider x = Checks.machine("1RA1RA");
        int[] wrong = {0, -1, 1001, Integer.MAX_VALUE, Integer.MIN_VALUE};
        for (int steps : wrong) {
            CHECKS.due("13: step(" + steps + ")", x.step(steps), OUT_OF_RANGE);
        }
        CHECKS.due("14: time() after errors", x.time(), 0);
        CHECKS.due("13: step(1000)", x.step(1000), 1000);
        CHECKS.due("13: step(1)", x.step(1), 1);
        for (int i = 0; i < 3; i++) {
            CHECKS.due("13: step(1000)", x.step(1000), 1000);
        }
        CHECKS.due("13: to time 5001", x.step(1000), OUT_OF_RANGE);
        CHECKS.due("14: time()", x.time(), 4001);
        CHECKS.due("13: to time 5000", x.step(999), 999);
        CHECKS.due("13: one more", x.step(1), OUT_OF_RANGE);
        CHECKS.due("13: out of range at the end", x.step(Integer.MAX_VALUE), OUT_OF_RANGE);
        CHECKS.due("14: time()", x.time(), 5000);
        CHECKS.due("16: halted()", x.halted(), false);
        CHECKS.due("12: restart()", x.restart(), 5000);
        CHECKS.due("13: step(1000) after restart", x.step(1000), 1000);
    }

    private static void haltedErrors() {
        HaltingDecider x = Checks.machine(TWO);
        x.step(10);
        CHECKS.due("13: out of range comes before halted", x.step(0), OUT_OF_RANGE);
        CHECKS.due("13: out of range comes before halted", x.step(1001), OUT_OF_RANGE);
        CHECKS.due("13: step(1000) after halting", x.step(1000), HALTED);
        CHECKS.due("14: time() stays", x.time(), 6);
    }

    private static void haltsLate() {
        HaltingDecider x = Checks.machine(LATE);
        for (int i = 0; i < 4; i++) {
            CHECKS.due("13: step(1000)", x.step(1000), 1000);
        }
        CHECKS.due("13: until it halts", x.step(1000), 533);
        CHECKS.due("16: halted()", x.halted(), true);
        CHECKS.due("15: state()", x.state(), 4);
        CHECKS.due("13: to time 5000, but halted", x.step(467), HALTED);
        CHECKS.due("13: to time 5001 comes first", x.step(468), OUT_OF_RANGE);
        CHECKS.due("12: restart()", x.restart(), 4533);
    }

    private static void farRight() {
        HaltingDecider x = Checks.machine("1RA1RA");
        for (int i = 0; i < 5; i++) {
            x.step(1000);
        }
        CHECKS.due("17: head()", x.head(), 5000);
        CHECKS.due("19: ones()", x.ones(), 5000);
        CHECKS.due("20: visited()", x.visited(), 5001);
        CHECKS.due("18: cell(-1)", x.cell(-1), 0);
        CHECKS.due("18: cell(0)", x.cell(0), 1);
        CHECKS.due("18: cell(4999)", x.cell(4999), 1);
        CHECKS.due("18: cell(5000)", x.cell(5000), 0);
        CHECKS.due("18: cell(5001)", x.cell(5001), 0);
        x.restart();
        CHECKS.due("18: cell(4999) after restart", x.cell(4999), 0);
        CHECKS.due("19: ones() after restart", x.ones(), 0);
    }

    private static void farLeft() {
        HaltingDecider x = Checks.machine("1LB1LB_0LA0LA");
        for (int i = 0; i < 5; i++) {
            x.step(1000);
        }
        CHECKS.due("17: head()", x.head(), -5000);
        CHECKS.due("19: ones()", x.ones(), 2500);
        CHECKS.due("20: visited()", x.visited(), 5001);
        for (int position = 0; position >= -4999; position -= 11) {
            CHECKS.due("18: cell(" + position + ")", x.cell(position), position % 2 == 0 ? 1 : 0);
        }
        CHECKS.due("18: cell(-4998)", x.cell(-4998), 1);
        CHECKS.due("18: cell(-5000)", x.cell(-5000), 0);
        CHECKS.due("18: cell(-5001)", x.cell(-5001), 0);
        CHECKS.due("18: cell(1)", x.cell(1), 0);
    }

    private static void cells() {
        HaltingDecider x = Checks.machine("1RB1RB_1LA0LA");
        x.step(3);
        int[] far = {Integer.MIN_VALUE, -2147483647, -1000000, -5017, -4999, 4999, 5017, 1000000, Integer.MAX_VALUE};
        for (int position : far) {
            CHECKS.due("18: cell(" + position + ")", x.cell(position), 0);
        }
        CHECKS.due("18: cell(0)", x.cell(0), 1);
        CHECKS.due("18: cell(1)", x.cell(1), 1);
        CHECKS.due("13: a step that writes 0", x.step(1), 1);
        CHECKS.due("18: cell(1)", x.cell(1), 0);
        CHECKS.due("19: ones()", x.ones(), 1);
        CHECKS.due("20: visited() without new cells", x.visited(), 2);
    }

    private static void noTransition() {
        HaltingDecider x = Checks.machine("1RB---_1LC---_---0RA");
        CHECKS.due("16: halted() at the start", x.halted(), false);
        // State 2 reads the 1 that state 0 wrote, and state 0 then reads the 1 that state 1 wrote.
        CHECKS.due("13: step(20)", x.step(20), 3);
        CHECKS.due("15: state()", x.state(), 0);
        CHECKS.due("16: halted()", x.halted(), true);
        CHECKS.due("17: head()", x.head(), 1);
        CHECKS.due("19: ones()", x.ones(), 1);
        CHECKS.due("13: step(1)", x.step(1), HALTED);
        x = Checks.machine("---1RA");
        CHECKS.due("13: no step at all", x.step(1), HALTED);
        CHECKS.due("15: state()", x.state(), 0);
        CHECKS.due("16: halted()", x.halted(), true);
        CHECKS.due("14: time()", x.time(), 0);
    }

    private static void haltAtOnceByStep() {
        HaltingDecider x = Checks.machine("1LZ---");
        CHECKS.due("16: halted() at the start", x.halted(), false);
        CHECKS.due("13: step(5)", x.step(5), 1);
        CHECKS.due("15: state()", x.state(), 9);
        CHECKS.due("17: the move is made", x.head(), -1);
        CHECKS.due("18: the write is made", x.cell(0), 1);
        CHECKS.due("20: visited() with the last cell", x.visited(), 2);
    }
}
