import java.util.ArrayList;
import java.util.HashSet;
import java.util.LinkedHashSet;
import java.util.List;
import java.util.Map;
import java.util.Set;
import java.util.TreeMap;
import java.util.TreeSet;
import java.util.regex.Matcher;
import java.util.regex.Pattern;

/**
 * The document once more, written as its words say it and without a thought for speed: tapes are
 * sets of positions, strings are Strings. It shares no way of working with HaltingDecider.
 */
final class Oracle {
    private static final int NO_SUCH_STATE = -1001, OUT_OF_RANGE = -1002, NO_TRANSITION = -1003;
    private static final int HALTED = -1004, NONE = -1005, TEXT_FULL = -1006;
    private static final int HALT = 9;
    private static final String ENTRY = "(?:[01][LR][A-EZ]|---)";
    private static final Pattern FORMAT = Pattern.compile(ENTRY + "{2}(?:_" + ENTRY + "{2}){0,4}");

    private record Transition(int write, int move, int next) { }

    private record Situation(int state, int symbol) { }

    private record Configuration(int state, int head, Set<Integer> ones) { }

    private record Partial(int state, int head, Map<Integer, Integer> known) { }

    private record Local(int state, String left, char symbol, String right) { }

    private record Drift(int t1, int t2, int offset) { }

    private int k = 2;
    private Map<Situation, Transition> table = new java.util.HashMap<>();
    private String text = "";
    private Configuration current = start();
    private int made = 0;
    private Set<Integer> headCells = new HashSet<>(Set.of(0));

    private static Configuration start() {
        return new Configuration(0, 0, Set.of());
    }

    // The machine.

    int setStates(int count) {
        if (count < 1 || count > 5) {
            return OUT_OF_RANGE;
        }
        int before = k;
        k = count;
        table.clear();
        restart();
        return before;
    }

    int states() {
        return k;
    }

    private boolean isState(int state) {
        return state >= 0 && state <= k - 1;
    }

    int setTransition(int state, int symbol, int write, int move, int next) {
        if (!isState(state)) {
            return NO_SUCH_STATE;
        }
        if (!isState(next) && next != HALT) {
            return NO_SUCH_STATE;
        }
        for (int value : new int[] {symbol, write, move}) {
            if (value != 0 && value != 1) {
                return OUT_OF_RANGE;
            }
        }
        Transition before = table.put(new Situation(state, symbol), new Transition(write, move, next));
        restart();
        return before == null ? 0 : 1;
    }

    private int error(int state, int symbol) {
        if (!isState(state)) {
            return NO_SUCH_STATE;
        }
        if (symbol != 0 && symbol != 1) {
            return OUT_OF_RANGE;
        }
        return table.containsKey(new Situation(state, symbol)) ? 0 : NO_TRANSITION;
    }

    int removeTransition(int state, int symbol) {
        int error = error(state, symbol);
        if (error != 0) {
            return error;
        }
        table.remove(new Situation(state, symbol));
        restart();
        return 1;
    }

    int writes(int state, int symbol) {
        int error = error(state, symbol);
        return error != 0 ? error : table.get(new Situation(state, symbol)).write();
    }

    int moves(int state, int symbol) {
        int error = error(state, symbol);
        return error != 0 ? error : table.get(new Situation(state, symbol)).move();
    }

    int next(int state, int symbol) {
        int error = error(state, symbol);
        return error != 0 ? error : table.get(new Situation(state, symbol)).next();
    }

    // The text.

    int type(int character) {
        if (character < 33 || character > 126) {
            return OUT_OF_RANGE;
        }
        if (text.length() == 40) {
            return TEXT_FULL;
        }
        text += (char) character;
        return text.length();
    }

    int load() {
        String read = text;
        text = "";
        for (int i = 0; i < read.length(); i++) {
            Matcher matcher = FORMAT.matcher(read.substring(0, i + 1));
            if (!matcher.matches() && !matcher.hitEnd()) {
                return -1 - i;
            }
        }
        if (!FORMAT.matcher(read).matches()) {
            return -1 - read.length();
        }
        String[] rows = read.split("_");
        for (int i = 0; i < read.length(); i++) {
            if ("ABCDE".indexOf(read.charAt(i)) >= rows.length) {
                return -1 - i;
            }
        }
        setStates(rows.length);
        for (int state = 0; state < k; state++) {
            readEntry(state, 0, rows[state].substring(0, 3));
            readEntry(state, 1, rows[state].substring(3, 6));
        }
        return k;
    }

    private void readEntry(int state, int symbol, String entry) {
        if (!entry.equals("---")) {
            int next = entry.charAt(2) == 'Z' ? HALT : "ABCDE".indexOf(entry.charAt(2));
            setTransition(state, symbol, "01".indexOf(entry.charAt(0)), "LR".indexOf(entry.charAt(1)), next);
        }
    }

    String machineText() {
        List<String> rows = new ArrayList<>();
        for (int state = 0; state < k; state++) {
            rows.add(entryText(state, 0) + entryText(state, 1));
        }
        return String.join("_", rows);
    }

    private String entryText(int state, int symbol) {
        Transition t = table.get(new Situation(state, symbol));
        if (t == null) {
            return "---";
        }
        return "" + t.write() + (t.move() == 1 ? "R" : "L") + "ABCDE----Z".charAt(t.next());
    }

    int textAt(int index) {
        String whole = machineText();
        return index >= 0 && index < whole.length() ? whole.charAt(index) : NONE;
    }

    // The steps.

    int restart() {
        int before = made;
        made = 0;
        current = start();
        headCells = new HashSet<>(Set.of(0));
        return before;
    }

    private Transition transitionOf(Configuration c) {
        return table.get(new Situation(c.state(), c.ones().contains(c.head()) ? 1 : 0));
    }

    private boolean hasHalted(Configuration c) {
        return c.state() == HALT || transitionOf(c) == null;
    }

    private Configuration after(Configuration c) {
        Transition t = transitionOf(c);
        Set<Integer> ones = new TreeSet<>(c.ones());
        if (t.write() == 1) {
            ones.add(c.head());
        } else {
            ones.remove(c.head());
        }
        return new Configuration(t.next(), t.move() == 1 ? c.head() + 1 : c.head() - 1, ones);
    }

    int step(int steps) {
        if (steps < 1 || steps > 1000 || time() + steps > 5000) {
            return OUT_OF_RANGE;
        }
        if (halted()) {
            return HALTED;
        }
        int before = made;
        while (made < before + steps && !halted()) {
            current = after(current);
            headCells.add(current.head());
            made++;
        }
        return made - before;
    }

    int time() {
        return made;
    }

    int state() {
        return current.state();
    }

    boolean halted() {
        return hasHalted(current);
    }

    int head() {
        return current.head();
    }

    int cell(int position) {
        return current.ones().contains(position) ? 1 : 0;
    }

    int ones() {
        return current.ones().size();
    }

    int visited() {
        return headCells.size();
    }

    // The searches.

    private static boolean isLimit(int limit) {
        return limit >= 1 && limit <= 200;
    }

    private List<Configuration> reached(int limit) {
        List<Configuration> all = new ArrayList<>(List.of(start()));
        while (all.size() <= limit && !hasHalted(all.get(all.size() - 1))) {
            all.add(after(all.get(all.size() - 1)));
        }
        return all;
    }

    int haltingTime(int limit) {
        if (!isLimit(limit)) {
            return OUT_OF_RANGE;
        }
        List<Configuration> all = reached(limit);
        return hasHalted(all.get(all.size() - 1)) ? all.size() - 1 : NONE;
    }

    private int[] cycle(int limit) {
        List<Configuration> all = reached(limit);
        for (int t2 = 1; t2 < all.size(); t2++) {
            int t1 = all.subList(0, t2).indexOf(all.get(t2));
            if (t1 >= 0) {
                return new int[] {t1, t2};
            }
        }
        return null;
    }

    int cycleStart(int limit) {
        if (!isLimit(limit)) {
            return OUT_OF_RANGE;
        }
        int[] times = cycle(limit);
        return times == null ? NONE : times[0];
    }

    int cycleLength(int limit) {
        if (!isLimit(limit)) {
            return OUT_OF_RANGE;
        }
        int[] times = cycle(limit);
        return times == null ? NONE : times[1] - times[0];
    }

    private static boolean isRightRecord(List<Configuration> all, int t) {
        for (int s = 0; s < t; s++) {
            if (all.get(s).head() >= all.get(t).head()) {
                return false;
            }
        }
        return true;
    }

    private static boolean isLeftRecord(List<Configuration> all, int t) {
        for (int s = 0; s < t; s++) {
            if (all.get(s).head() <= all.get(t).head()) {
                return false;
            }
        }
        return true;
    }

    private static boolean agree(Configuration a, Configuration b, int from, int to) {
        for (int c = from; c <= to; c++) {
            if (a.ones().contains(c) != b.ones().contains(c + b.head() - a.head())) {
                return false;
            }
        }
        return true;
    }

    private static boolean isRightDrift(List<Configuration> all, int t1, int t2) {
        if (!isRightRecord(all, t1) || !isRightRecord(all, t2) || all.get(t1).state() != all.get(t2).state()) {
            return false;
        }
        int m = Integer.MAX_VALUE;
        for (int t = t1; t <= t2; t++) {
            m = Math.min(m, all.get(t).head());
        }
        return agree(all.get(t1), all.get(t2), m, all.get(t1).head());
    }

    private static boolean isLeftDrift(List<Configuration> all, int t1, int t2) {
        if (!isLeftRecord(all, t1) || !isLeftRecord(all, t2) || all.get(t1).state() != all.get(t2).state()) {
            return false;
        }
        int m = Integer.MIN_VALUE;
        for (int t = t1; t <= t2; t++) {
            m = Math.max(m, all.get(t).head());
        }
        return agree(all.get(t1), all.get(t2), all.get(t1).head(), m);
    }

    private Drift drift(int limit) {
        List<Configuration> all = reached(limit);
        for (int t2 = 1; t2 < all.size(); t2++) {
            for (int t1 = t2 - 1; t1 >= 0; t1--) {
                if (isRightDrift(all, t1, t2) || isLeftDrift(all, t1, t2)) {
                    return new Drift(t1, t2, all.get(t2).head() - all.get(t1).head());
                }
            }
        }
        return null;
    }

    int driftPeriod(int limit) {
        if (!isLimit(limit)) {
            return OUT_OF_RANGE;
        }
        Drift drift = drift(limit);
        return drift == null ? NONE : drift.t2() - drift.t1();
    }

    int driftOffset(int limit) {
        if (!isLimit(limit)) {
            return OUT_OF_RANGE;
        }
        Drift drift = drift(limit);
        return drift == null ? NONE : drift.offset();
    }

    private List<Situation> allSituations() {
        List<Situation> all = new ArrayList<>();
        for (int state = 0; state < k; state++) {
            all.add(new Situation(state, 0));
            all.add(new Situation(state, 1));
        }
        return all;
    }

    private boolean isHalting(Situation s) {
        return table.get(s) == null || table.get(s).next() == HALT;
    }

    private List<Partial> predecessors(Partial of) {
        List<Partial> found = new ArrayList<>();
        for (Situation s : allSituations()) {
            Transition t = table.get(s);
            if (t == null || t.next() != of.state()) {
                continue;
            }
            int cell = t.move() == 1 ? of.head() - 1 : of.head() + 1;
            if (of.known().getOrDefault(cell, t.write()) == t.write()) {
                Map<Integer, Integer> known = new TreeMap<>(of.known());
                known.put(cell, s.symbol());
                found.add(new Partial(s.state(), cell, known));
            }
        }
        return found;
    }

    int backwardDepth(int limit) {
        if (limit < 1 || limit > 8) {
            return OUT_OF_RANGE;
        }
        List<Partial> level = new ArrayList<>();
        for (Situation s : allSituations()) {
            if (isHalting(s)) {
                level.add(new Partial(s.state(), 0, Map.of(0, s.symbol())));
            }
        }
        for (int d = 0; d <= limit; d++) {
            if (level.isEmpty()) {
                return d;
            }
            List<Partial> deeper = new ArrayList<>();
            for (Partial p : level) {
                if (p.state() == 0 && !p.known().containsValue(1)) {
                    return NONE;
                }
                deeper.addAll(predecessors(p));
            }
            if (level.size() > 300) {
                return NONE;
            }
            level = deeper;
        }
        return NONE;
    }

    int closedSet(int n) {
        if (n < 1 || n > 3) {
            return OUT_OF_RANGE;
        }
        String zeros = "0".repeat(n);
        Set<String> lefts = new HashSet<>(Set.of(zeros));
        Set<String> rights = new HashSet<>(Set.of(zeros));
        Set<Local> locals = new LinkedHashSet<>(Set.of(new Local(0, zeros, '0', zeros)));
        boolean isGrowing = true;
        while (isGrowing) {
            isGrowing = false;
            for (Local c : new ArrayList<>(locals)) {
                Situation s = new Situation(c.state(), c.symbol() - '0');
                if (isHalting(s)) {
                    return NONE;
                }
                isGrowing |= apply(c, table.get(s), lefts, rights, locals);
            }
        }
        return locals.size();
    }

    private static boolean apply(Local c, Transition t, Set<String> lefts, Set<String> rights, Set<Local> locals) {
        boolean isRight = t.move() == 1;
        String behind = isRight ? c.left() : c.right();
        String ahead = isRight ? c.right() : c.left();
        Set<String> allAhead = isRight ? rights : lefts;
        boolean isGrowing = (isRight ? lefts : rights).add(behind);
        String newBehind = t.write() + behind.substring(0, behind.length() - 1);
        for (String x : new String[] {"0", "1"}) {
            String newAhead = ahead.substring(1) + x;
            if (allAhead.contains(newAhead)) {
                char symbol = ahead.charAt(0);
                isGrowing |= locals.add(isRight
                        ? new Local(t.next(), newBehind, symbol, newAhead)
                        : new Local(t.next(), newAhead, symbol, newBehind));
            }
        }
        return isGrowing;
    }

    int decide(int limit) {
        if (!isLimit(limit)) {
            return OUT_OF_RANGE;
        }
        if (haltingTime(limit) != NONE) {
            return 1;
        }
        if (cycle(limit) != null) {
            return 2;
        }
        if (drift(limit) != null) {
            return 3;
        }
        if (backwardDepth(8) != NONE) {
            return 4;
        }
        return closedSet(1) != NONE || closedSet(2) != NONE || closedSet(3) != NONE ? 5 : 0;
    }
}
