import java.util.Random;
import java.util.TreeMap;

/** Compares HaltingDecider with the Oracle: many machines, and long runs of mixed calls. */
public final class OracleTest {
    private static final Checks CHECKS = new Checks();
    private static final String[] ONE_ROW_NEXTS = {"A", "Z"};
    /** Machines that halt, cycle, drift or run out of partial configurations at the last moment. */
    private static final String[] EDGES = {"1RB0LC_1RC1RE_1LA0LD_1LA0RA_1RD1LB", "1RB0RB_1RC1LA_1LD0LE_1RA1LC_1LD1LD",
        "1RB0LA_0RC1LB_1RD1RC_1LA1LD", "1RB0RB_0LE0LC_1RD0RA_1RD0LB_1RA1LE", "1RB1LA_1LC1RD_1LC1LE_1RA1RD_0RA0LC",
        "0LC1RE_---1LE_0RD0LB_0LC0RB_---1RD"};
    /** What an object is made for, and what the last round of mixed calls and the end of a run can take of it. */
    private static final int MOST_CALLS = 512;
    private static final int LAST_CALLS = 140;
    private static final TreeMap<Integer, Integer> VERDICTS = new TreeMap<>();

    public static void main(String[] args) {
        allMachinesOfOneState();
        for (String text : EDGES) {
            compareSearches(text, 199);
            compareSearches(text, 200);
        }
        randomMachines(new Random(1), 2500);
        randomRuns(new Random(2), 1600);
        lateRuns(new Random(3), 12);
        System.out.println("verdicts met, with their numbers: " + VERDICTS);
        for (int verdict = 0; verdict <= 5; verdict++) {
            CHECKS.due("verdict " + verdict + " was met", VERDICTS.containsKey(verdict), true);
        }
        CHECKS.finish();
    }

    private static void allMachinesOfOneState() {
        String[] entries = new String[9];
        int count = 0;
        entries[count++] = "---";
        for (String write : new String[] {"0", "1"}) {
            for (String move : new String[] {"L", "R"}) {
                for (String next : ONE_ROW_NEXTS) {
                    entries[count++] = write + move + next;
                }
            }
        }
        for (String zero : entries) {
            for (String one : entries) {
                compareSearches(zero + one, 200);
            }
        }
    }

    private static void randomMachines(Random random, int number) {
        for (int i = 0; i < number; i++) {
            // A small limit leaves more machines to the later verdicts.
            int limit = i % 3 == 0 ? 1 + random.nextInt(200) : 1 + random.nextInt(20);
            compareSearches(randomMachine(random), limit);
        }
    }

    /** Halting is kept rare, so that the verdicts after the first are met often. */
    private static String randomMachine(Random random) {
        int states = 1 + random.nextInt(5);
        int rarity = 2 * states + random.nextInt(12);
        StringBuilder text = new StringBuilder();
        for (int entry = 0; entry < 2 * states; entry++) {
            if (entry > 0 && entry % 2 == 0) {
                text.append('_');
            }
            int kind = random.nextInt(rarity);
            if (kind == 0) {
                text.append("---");
            } else {
                text.append(random.nextInt(2)).append("LR".charAt(random.nextInt(2)));
                text.append(kind == 1 ? 'Z' : "ABCDE".charAt(random.nextInt(states)));
            }
        }
        return text.toString();
    }

    private static void compareSearches(String text, int limit) {
        HaltingDecider x = new HaltingDecider();
        Oracle o = new Oracle();
        for (int i = 0; i < text.length(); i++) {
            CHECKS.due(text + " type", x.type(text.charAt(i)), o.type(text.charAt(i)));
        }
        CHECKS.due(text + " load()", x.load(), o.load());
        String call = text + " limit " + limit + ": ";
        CHECKS.due(call + "haltingTime", x.haltingTime(limit), o.haltingTime(limit));
        CHECKS.due(call + "cycleStart", x.cycleStart(limit), o.cycleStart(limit));
        CHECKS.due(call + "cycleLength", x.cycleLength(limit), o.cycleLength(limit));
        CHECKS.due(call + "driftPeriod", x.driftPeriod(limit), o.driftPeriod(limit));
        CHECKS.due(call + "driftOffset", x.driftOffset(limit), o.driftOffset(limit));
        for (int d = 1; d <= 8; d++) {
            CHECKS.due(text + " backwardDepth(" + d + ")", x.backwardDepth(d), o.backwardDepth(d));
        }
        for (int n = 1; n <= 3; n++) {
            CHECKS.due(text + " closedSet(" + n + ")", x.closedSet(n), o.closedSet(n));
        }
        int verdict = o.decide(limit);
        VERDICTS.merge(verdict, 1, Integer::sum);
        CHECKS.due(call + "decide", x.decide(limit), verdict);
    }

    private static void randomRuns(Random random, int number) {
        for (int run = 0; run < number && !CHECKS.anyWrong(); run++) {
            HaltingDecider x = new HaltingDecider();
            Oracle o = new Oracle();
            int room = random.nextInt(MOST_CALLS - LAST_CALLS);
            int before = CHECKS.answers();
            while (CHECKS.answers() - before <= room) {
                randomCall(run, random, x, o);
            }
            CHECKS.due("run " + run + " ends with the machine", Checks.textOf(x).equals(o.machineText()), true);
        }
    }

    /** Mostly a value of the range, sometimes one just outside it or far away. */
    private static int pick(Random random, int low, int high) {
        switch (random.nextInt(30)) {
            case 0:
                return low - 1;
            case 1:
                return high + 1;
            case 2:
                int[] odd = {Integer.MIN_VALUE, Integer.MAX_VALUE, -1, 0, 9};
                return odd[random.nextInt(odd.length)];
            default:
                return low + random.nextInt(high - low + 1);
        }
    }

    private static void randomCall(int run, Random random, HaltingDecider x, Oracle o) {
        if (random.nextInt(2) == 0) {
            randomChange(run, random, x, o);
        }
        if (random.nextInt(3) == 0) {
            randomSteps(run, random, x, o);
        }
        if (random.nextInt(4) == 0) {
            randomSearch(run, random, x, o);
        }
        compareState(run, random, x, o);
    }

    private static void randomChange(int run, Random random, HaltingDecider x, Oracle o) {
        String call = "run " + run + ": ";
        int kind = random.nextInt(20);
        if (kind == 0) {
            int count = pick(random, 1, 5);
            CHECKS.due(call + "setStates(" + count + ")", x.setStates(count), o.setStates(count));
        } else if (kind == 1) {
            int state = pick(random, 0, 4);
            int symbol = pick(random, 0, 1);
            CHECKS.due(call + "removeTransition(" + state + ", " + symbol + ")",
                    x.removeTransition(state, symbol), o.removeTransition(state, symbol));
        } else if (kind < 4) {
            typeSome(call, random, x, o);
            CHECKS.due(call + "load()", x.load(), o.load());
        } else if (kind == 4) {
            typeSome(call, random, x, o);
        } else if (kind < 9) {
            int[] a = {pick(random, 0, o.states() - 1), pick(random, 0, 1), pick(random, 0, 1),
                pick(random, 0, 1), random.nextInt(8) == 0 ? 9 : pick(random, 0, o.states() - 1)};
            CHECKS.due(call + "setTransition" + java.util.Arrays.toString(a),
                    x.setTransition(a[0], a[1], a[2], a[3], a[4]), o.setTransition(a[0], a[1], a[2], a[3], a[4]));
        }
    }

    /** A machine's text, now and then with a character changed, cut off or put in. */
    private static void typeSome(String call, Random random, HaltingDecider x, Oracle o) {
        StringBuilder text = new StringBuilder(randomMachine(random));
        int at = random.nextInt(text.length());
        switch (random.nextInt(6)) {
            case 0:
                text.setCharAt(at, "01LRABCDEZ-_X".charAt(random.nextInt(13)));
                break;
            case 1:
                text.setLength(at);
                break;
            case 2:
                text.insert(at, "01LRABCDEZ-_X".charAt(random.nextInt(13)));
                break;
            case 3:
                text.append('_').append(randomMachine(random));
                break;
            default:
                break;
        }
        for (int i = 0; i < text.length(); i++) {
            CHECKS.due(call + "type(" + (int) text.charAt(i) + ")", x.type(text.charAt(i)), o.type(text.charAt(i)));
        }
        int code = pick(random, 33, 126);
        if (code < 33 || code > 126) {
            CHECKS.due(call + "type(" + code + ")", x.type(code), o.type(code));
        }
    }

    private static void randomSteps(int run, Random random, HaltingDecider x, Oracle o) {
        String call = "run " + run + ": ";
        if (random.nextInt(12) == 0) {
            CHECKS.due(call + "restart()", x.restart(), o.restart());
        }
        int steps = random.nextInt(10) == 0 ? pick(random, 1, 1000) : pick(random, 1, 25);
        CHECKS.due(call + "step(" + steps + ")", x.step(steps), o.step(steps));
    }

    private static void randomSearch(int run, Random random, HaltingDecider x, Oracle o) {
        String call = "run " + run + ": ";
        int limit = random.nextInt(4) == 0 ? pick(random, 1, 200) : pick(random, 1, 30);
        int depth = pick(random, 1, 8);
        int n = pick(random, 1, 3);
        CHECKS.due(call + "haltingTime(" + limit + ")", x.haltingTime(limit), o.haltingTime(limit));
        CHECKS.due(call + "cycleStart(" + limit + ")", x.cycleStart(limit), o.cycleStart(limit));
        CHECKS.due(call + "cycleLength(" + limit + ")", x.cycleLength(limit), o.cycleLength(limit));
        CHECKS.due(call + "driftPeriod(" + limit + ")", x.driftPeriod(limit), o.driftPeriod(limit));
        CHECKS.due(call + "driftOffset(" + limit + ")", x.driftOffset(limit), o.driftOffset(limit));
        CHECKS.due(call + "backwardDepth(" + depth + ")", x.backwardDepth(depth), o.backwardDepth(depth));
        CHECKS.due(call + "closedSet(" + n + ")", x.closedSet(n), o.closedSet(n));
        CHECKS.due(call + "decide(" + limit + ")", x.decide(limit), o.decide(limit));
    }

    private static void compareState(int run, Random random, HaltingDecider x, Oracle o) {
        String call = "run " + run + ": ";
        CHECKS.due(call + "states()", x.states(), o.states());
        CHECKS.due(call + "time()", x.time(), o.time());
        CHECKS.due(call + "state()", x.state(), o.state());
        CHECKS.due(call + "halted()", x.halted(), o.halted());
        CHECKS.due(call + "head()", x.head(), o.head());
        CHECKS.due(call + "ones()", x.ones(), o.ones());
        CHECKS.due(call + "visited()", x.visited(), o.visited());
        int position = pick(random, o.head() - 6, o.head() + 6);
        CHECKS.due(call + "cell(" + position + ")", x.cell(position), o.cell(position));
        int index = pick(random, 0, 7 * o.states() - 2);
        CHECKS.due(call + "textAt(" + index + ")", x.textAt(index), o.textAt(index));
        int state = pick(random, 0, 4);
        int symbol = pick(random, 0, 1);
        String at = "(" + state + ", " + symbol + ")";
        CHECKS.due(call + "writes" + at, x.writes(state, symbol), o.writes(state, symbol));
        CHECKS.due(call + "moves" + at, x.moves(state, symbol), o.moves(state, symbol));
        CHECKS.due(call + "next" + at, x.next(state, symbol), o.next(state, symbol));
    }

    /** Runs up to time 5000, which the mixed calls do not reach. */
    private static void lateRuns(Random random, int number) {
        for (int run = 0; run < number; run++) {
            HaltingDecider x = new HaltingDecider();
            Oracle o = new Oracle();
            String text = run == 0 ? "1RB1LA_0LA0RB" : randomMachine(random);
            for (int i = 0; i < text.length(); i++) {
                x.type(text.charAt(i));
                o.type(text.charAt(i));
            }
            CHECKS.due("late run load()", x.load(), o.load());
            for (int i = 0; i < 7; i++) {
                int steps = i < 4 ? 1000 : 500;
                CHECKS.due(text + " step(" + steps + ") number " + i, x.step(steps), o.step(steps));
                compareState(1000 + run, random, x, o);
            }
        }
    }
}
