import java.util.ArrayList;
import java.util.List;

/**
 * "A call that returns one of the error codes below changes nothing": each refused call is made in
 * every setting, beside a twin on which it is not made. The calls that only look are tried as well.
 */
public final class RefusalTest {
    private static final Checks CHECKS = new Checks();
    private static final int NO_SUCH_STATE = -1001, OUT_OF_RANGE = -1002, NO_TRANSITION = -1003;
    private static final int HALTED = -1004, NONE = -1005, TEXT_FULL = -1006;
    private static final int MIN = Integer.MIN_VALUE;
    private static final int MAX = Integer.MAX_VALUE;
    private static final int[] NO_SYMBOLS = {MIN, -1, 2, MAX};
    private static final int[] NO_LIMITS = {MIN, -1, 0, 201, MAX};
    /** Five rows and six characters more, as many as a text can have. */
    private static final String FORTY = "1RB1LA_1RC0LD_1RD---_0LA1RE_0RD0RZ_1RA1L";

    private interface Call {
        int on(HaltingDecider x);
    }

    private record Named(String name, Call call, int code) { }

    /** A machine (or none, for a new object), its time, what has been typed, and what completes it. */
    private record Setting(String machine, int time, String typed, String rest) {
        HaltingDecider make() {
            HaltingDecider x = machine.isEmpty() ? new HaltingDecider() : Checks.machine(machine);
            Checks.stepTo(x, time);
            Checks.typeAll(x, typed);
            return x;
        }

        String name() {
            return (machine.isEmpty() ? "a new object" : machine) + " at " + time + ", typed " + typed;
        }
    }

    private static final Setting NEW = new Setting("", 0, "", "1RA---");
    private static final Setting AMID = new Setting("1RB1LA_1LA1RB_---0RC", 17, "1RB0LA_0RA", "1LZ");
    private static final Setting NO_WAY_ON = new Setting("1RB---_1LC---_---0RA", 3, "", "------");
    private static final Setting AT_HALT = new Setting("1RB1LB_1LA1RZ", 6, "1R", "A---");
    private static final Setting AT_THE_END = new Setting("1RA1RA", 5000, "1RB1LA_1RC0LD_1RD---_0LA1RE_0RD0R", "Z");
    private static final Setting FULL_TEXT = new Setting("1LB1LB_0LA---", 400, FORTY, "");
    private static final Setting LATE = new Setting("1RB0LA_0LC0LD_1RD1LA_1LA1RE_0RC---", 4533, "?", "");
    private static final Setting CYCLING = new Setting("0RB---_0LA---", 3, "0LA", "1RZ");
    private static final List<Setting> SETTINGS = List.of(NEW, AMID, NO_WAY_ON, AT_HALT, AT_THE_END, FULL_TEXT, LATE, CYCLING);

    public static void main(String[] args) {
        settingsAreAsMeant();
        List<Named> calls = new ArrayList<>();
        addMachineRefusals(calls);
        addReaderRefusals(calls);
        addOtherRefusals(calls);
        addSearchRefusals(calls);
        for (Setting setting : SETTINGS) {
            for (Named named : calls) {
                changesNothing(setting, named);
            }
            for (Named named : looks()) {
                looksOnly(setting, named);
            }
        }
        noTransition();
        textFull();
        halted();
        tooLate();
        notFound();
        manyInARow();
        CHECKS.finish();
    }

    private static void settingsAreAsMeant() {
        CHECKS.due("NEW is halted", NEW.make().halted(), true);
        CHECKS.due("AMID is not halted", AMID.make().halted(), false);
        CHECKS.due("NO_WAY_ON is halted", NO_WAY_ON.make().halted(), true);
        CHECKS.due("NO_WAY_ON is not in HALT", NO_WAY_ON.make().state(), 0);
        CHECKS.due("AT_HALT is in HALT", AT_HALT.make().state(), 9);
        CHECKS.due("AT_THE_END is not halted", AT_THE_END.make().halted(), false);
        CHECKS.due("LATE is halted", LATE.make().halted(), true);
    }

    /** Makes the call on one of two twins, and compares them then and after what follows. */
    private static void changesNothing(Setting setting, Named named) {
        HaltingDecider x = setting.make();
        HaltingDecider twin = setting.make();
        String where = setting.name() + ": " + named.name();
        CHECKS.due(where, named.call().on(x), named.code());
        compareTwins(where, setting, x, twin);
    }

    private static void compareTwins(String where, Setting setting, HaltingDecider x, HaltingDecider twin) {
        CHECKS.due(where + ", then the state", Checks.faceOf(x), Checks.faceOf(twin));
        CHECKS.due(where + ", then step(3)", x.step(3), twin.step(3));
        CHECKS.due(where + ", then the state", Checks.faceOf(x), Checks.faceOf(twin));
        CHECKS.due(where + ", then load()", Checks.loadText(x, setting.rest()), Checks.loadText(twin, setting.rest()));
        CHECKS.due(where + ", then the machine", Checks.textOf(x), Checks.textOf(twin));
        CHECKS.due(where + ", then restart()", x.restart(), twin.restart());
    }

    /** The answer does not matter here. */
    private static void looksOnly(Setting setting, Named named) {
        HaltingDecider x = setting.make();
        named.call().on(x);
        compareTwins(setting.name() + ": " + named.name(), setting, x, setting.make());
    }

    private static void addMachineRefusals(List<Named> calls) {
        int[] noCounts = {MIN, -1, 0, 6, MAX};
        for (int count : noCounts) {
            calls.add(new Named("setStates(" + count + ")", x -> x.setStates(count), OUT_OF_RANGE));
        }
        int[] noStates = {MIN, -1, 5, 8, 10, MAX};
        for (int state : noStates) {
            calls.add(new Named("setTransition, state " + state, x -> x.setTransition(state, 0, 0, 0, 0), NO_SUCH_STATE));
            calls.add(new Named("setTransition, next " + state, x -> x.setTransition(0, 0, 0, 0, state), NO_SUCH_STATE));
            calls.add(new Named("setTransition, all wrong", x -> x.setTransition(state, 2, 2, 2, state), NO_SUCH_STATE));
        }
        calls.add(new Named("setTransition, state k", x -> x.setTransition(x.states(), 0, 0, 0, 0), NO_SUCH_STATE));
        calls.add(new Named("setTransition, next k", x -> x.setTransition(0, 0, 0, 0, x.states()), NO_SUCH_STATE));
        calls.add(new Named("setTransition, state HALT", x -> x.setTransition(9, 0, 0, 0, 9), NO_SUCH_STATE));
        for (int wrong : NO_SYMBOLS) {
            calls.add(new Named("setTransition, symbol " + wrong, x -> x.setTransition(0, wrong, 0, 0, 0), OUT_OF_RANGE));
            calls.add(new Named("setTransition, write " + wrong, x -> x.setTransition(0, 0, wrong, 0, 0), OUT_OF_RANGE));
            calls.add(new Named("setTransition, move " + wrong, x -> x.setTransition(0, 0, 0, wrong, 9), OUT_OF_RANGE));
        }
    }

    private static void addReaderRefusals(List<Named> calls) {
        int[] noStates = {MIN, -1, 5, 9, MAX};
        for (int state : noStates) {
            calls.add(new Named("removeTransition, state " + state, x -> x.removeTransition(state, 0), NO_SUCH_STATE));
            calls.add(new Named("writes, state " + state, x -> x.writes(state, 0), NO_SUCH_STATE));
            calls.add(new Named("moves, state " + state, x -> x.moves(state, 0), NO_SUCH_STATE));
            calls.add(new Named("next, state " + state, x -> x.next(state, 0), NO_SUCH_STATE));
        }
        calls.add(new Named("removeTransition, state k", x -> x.removeTransition(x.states(), 0), NO_SUCH_STATE));
        calls.add(new Named("removeTransition, both", x -> x.removeTransition(x.states(), 2), NO_SUCH_STATE));
        for (int wrong : NO_SYMBOLS) {
            calls.add(new Named("removeTransition, symbol " + wrong, x -> x.removeTransition(0, wrong), OUT_OF_RANGE));
            calls.add(new Named("writes, symbol " + wrong, x -> x.writes(0, wrong), OUT_OF_RANGE));
            calls.add(new Named("moves, symbol " + wrong, x -> x.moves(0, wrong), OUT_OF_RANGE));
            calls.add(new Named("next, symbol " + wrong, x -> x.next(0, wrong), OUT_OF_RANGE));
        }
    }

    private static void addOtherRefusals(List<Named> calls) {
        int[] noCodes = {MIN, -1, 0, 32, 127, 305, 65585, MAX};
        for (int code : noCodes) {
            calls.add(new Named("type(" + code + ")", x -> x.type(code), OUT_OF_RANGE));
        }
        int[] noIndices = {MIN, -1, 34, MAX};
        for (int index : noIndices) {
            calls.add(new Named("textAt(" + index + ")", x -> x.textAt(index), NONE));
        }
        calls.add(new Named("textAt(7 * k - 1)", x -> x.textAt(7 * x.states() - 1), NONE));
        int[] noSteps = {MIN, -1, 0, 1001, MAX};
        for (int steps : noSteps) {
            calls.add(new Named("step(" + steps + ")", x -> x.step(steps), OUT_OF_RANGE));
        }
    }

    private static void addSearchRefusals(List<Named> calls) {
        for (int limit : NO_LIMITS) {
            calls.add(new Named("haltingTime(" + limit + ")", x -> x.haltingTime(limit), OUT_OF_RANGE));
            calls.add(new Named("cycleStart(" + limit + ")", x -> x.cycleStart(limit), OUT_OF_RANGE));
            calls.add(new Named("cycleLength(" + limit + ")", x -> x.cycleLength(limit), OUT_OF_RANGE));
            calls.add(new Named("driftPeriod(" + limit + ")", x -> x.driftPeriod(limit), OUT_OF_RANGE));
            calls.add(new Named("driftOffset(" + limit + ")", x -> x.driftOffset(limit), OUT_OF_RANGE));
            calls.add(new Named("backwardDepth(" + limit + ")", x -> x.backwardDepth(limit), OUT_OF_RANGE));
            calls.add(new Named("closedSet(" + limit + ")", x -> x.closedSet(limit), OUT_OF_RANGE));
            calls.add(new Named("decide(" + limit + ")", x -> x.decide(limit), OUT_OF_RANGE));
        }
        calls.add(new Named("backwardDepth(9)", x -> x.backwardDepth(9), OUT_OF_RANGE));
        calls.add(new Named("closedSet(4)", x -> x.closedSet(4), OUT_OF_RANGE));
    }

    private static List<Named> looks() {
        List<Named> calls = new ArrayList<>();
        calls.add(new Named("states()", x -> x.states(), 0));
        calls.add(new Named("writes(0, 0)", x -> x.writes(0, 0), 0));
        calls.add(new Named("moves(0, 0)", x -> x.moves(0, 0), 0));
        calls.add(new Named("next(0, 0)", x -> x.next(0, 0), 0));
        calls.add(new Named("textAt(0)", x -> x.textAt(0), 0));
        calls.add(new Named("time()", x -> x.time(), 0));
        calls.add(new Named("state()", x -> x.state(), 0));
        calls.add(new Named("halted()", x -> x.halted() ? 1 : 0, 0));
        calls.add(new Named("head()", x -> x.head(), 0));
        calls.add(new Named("cell(MIN)", x -> x.cell(MIN), 0));
        calls.add(new Named("cell(MAX)", x -> x.cell(MAX), 0));
        calls.add(new Named("ones()", x -> x.ones(), 0));
        calls.add(new Named("visited()", x -> x.visited(), 0));
        calls.add(new Named("haltingTime(200)", x -> x.haltingTime(200), 0));
        calls.add(new Named("cycleStart(200)", x -> x.cycleStart(200), 0));
        calls.add(new Named("cycleLength(200)", x -> x.cycleLength(200), 0));
        calls.add(new Named("driftPeriod(200)", x -> x.driftPeriod(200), 0));
        calls.add(new Named("driftOffset(200)", x -> x.driftOffset(200), 0));
        calls.add(new Named("backwardDepth(8)", x -> x.backwardDepth(8), 0));
        calls.add(new Named("closedSet(3)", x -> x.closedSet(3), 0));
        calls.add(new Named("decide(1)", x -> x.decide(1), 0));
        calls.add(new Named("decide(200)", x -> x.decide(200), 0));
        return calls;
    }

    private static void noTransition() {
        noTransitionAt(NEW, 0, 0);
        noTransitionAt(NEW, 1, 1);
        noTransitionAt(AMID, 2, 0);
        noTransitionAt(NO_WAY_ON, 0, 1);
        noTransitionAt(LATE, 4, 1);
        noTransitionAt(FULL_TEXT, 1, 1);
    }

    private static void noTransitionAt(Setting setting, int state, int symbol) {
        String at = "(" + state + ", " + symbol + ")";
        changesNothing(setting, new Named("removeTransition" + at, x -> x.removeTransition(state, symbol), NO_TRANSITION));
        changesNothing(setting, new Named("writes" + at, x -> x.writes(state, symbol), NO_TRANSITION));
        changesNothing(setting, new Named("moves" + at, x -> x.moves(state, symbol), NO_TRANSITION));
        changesNothing(setting, new Named("next" + at, x -> x.next(state, symbol), NO_TRANSITION));
    }

    private static void textFull() {
        int[] codes = {33, 45, 48, 49, 65, 95, 126};
        for (int code : codes) {
            changesNothing(FULL_TEXT, new Named("type(" + code + ")", x -> x.type(code), TEXT_FULL));
        }
    }

    private static void halted() {
        int[] taken = {1, 2, 467};
        for (int steps : taken) {
            for (Setting setting : List.of(NEW, NO_WAY_ON, AT_HALT, LATE)) {
                changesNothing(setting, new Named("step(" + steps + ")", x -> x.step(steps), HALTED));
            }
        }
        for (Setting setting : List.of(NEW, NO_WAY_ON, AT_HALT)) {
            changesNothing(setting, new Named("step(1000)", x -> x.step(1000), HALTED));
        }
    }

    /** The time would become greater than 5000. */
    private static void tooLate() {
        int[] steps = {1, 2, 1000};
        for (int number : steps) {
            changesNothing(AT_THE_END, new Named("step(" + number + ")", x -> x.step(number), OUT_OF_RANGE));
        }
        changesNothing(LATE, new Named("step(468)", x -> x.step(468), OUT_OF_RANGE));
        changesNothing(LATE, new Named("step(1000)", x -> x.step(1000), OUT_OF_RANGE));
        Setting oneStepLeft = new Setting("1LA1LA", 4999, "", "1RZ---");
        changesNothing(oneStepLeft, new Named("step(2)", x -> x.step(2), OUT_OF_RANGE));
        changesNothing(oneStepLeft, new Named("step(1000)", x -> x.step(1000), OUT_OF_RANGE));
    }

    private static void notFound() {
        for (Setting setting : List.of(AMID, AT_THE_END, CYCLING)) {
            changesNothing(setting, new Named("haltingTime(200)", x -> x.haltingTime(200), NONE));
        }
        for (Setting setting : List.of(NEW, AMID, NO_WAY_ON, AT_HALT, AT_THE_END)) {
            changesNothing(setting, new Named("cycleStart(200)", x -> x.cycleStart(200), NONE));
            changesNothing(setting, new Named("cycleLength(200)", x -> x.cycleLength(200), NONE));
        }
        for (Setting setting : List.of(NEW, NO_WAY_ON, AT_HALT, CYCLING)) {
            changesNothing(setting, new Named("driftPeriod(200)", x -> x.driftPeriod(200), NONE));
            changesNothing(setting, new Named("driftOffset(200)", x -> x.driftOffset(200), NONE));
        }
        for (Setting setting : List.of(NEW, NO_WAY_ON, AT_HALT, LATE)) {
            changesNothing(setting, new Named("backwardDepth(8)", x -> x.backwardDepth(8), NONE));
            changesNothing(setting, new Named("closedSet(1)", x -> x.closedSet(1), NONE));
            changesNothing(setting, new Named("closedSet(3)", x -> x.closedSet(3), NONE));
        }
        changesNothing(CYCLING, new Named("backwardDepth(1)", x -> x.backwardDepth(1), NONE));
    }

    /** "An object is used for at most 512 calls": the last of them answers as the first would. */
    private static void manyInARow() {
        HaltingDecider x = new HaltingDecider();
        for (int call = 1; call <= 508; call++) {
            int kind = call % 8;
            int answer = kind == 0 ? x.setStates(6) : kind == 1 ? x.setTransition(0, 0, 0, 2, 0)
                    : kind == 2 ? x.type(32) : kind == 3 ? x.step(0) : kind == 4 ? x.decide(0)
                    : kind == 5 ? x.closedSet(4) : kind == 6 ? x.removeTransition(0, 2) : x.backwardDepth(9);
            CHECKS.due("call " + call, answer, OUT_OF_RANGE);
        }
        CHECKS.due("call 509: setTransition", x.setTransition(0, 0, 1, 1, 0), 0);
        CHECKS.due("call 510: step(1000)", x.step(1000), 1000);
        CHECKS.due("call 511: ones()", x.ones(), 1000);
        CHECKS.due("call 512: decide(200)", x.decide(200), 3);
    }
}
