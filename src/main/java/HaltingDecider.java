import java.util.Arrays;

/**
 * A halting decider for small two-symbol Turing machines: simulation, detection of cycles and of
 * translated cycles, backward reasoning, and closed position sets of n-grams.
 *
 * <p>Every row is made in the constructor and used again, so that no later call makes an object.
 */
public final class HaltingDecider {
    public static final int NO_SUCH_STATE = -1001, OUT_OF_RANGE = -1002, NO_TRANSITION = -1003, HALTED = -1004, NONE = -1005, TEXT_FULL = -1006;
    public static final int LEFT = 0, RIGHT = 1, HALT = 9;
    public static final int UNKNOWN = 0, HALTS = 1, CYCLES = 2, DRIFTS = 3, REFUTED = 4, CLOSED = 5;

    private static final int MAX_STATES = 5;
    private static final int FIRST_STATES = 2;
    private static final int MAX_STEPS = 1000;
    private static final int MAX_TIME = 5000;
    private static final int MAX_LIMIT = 200;
    private static final int MAX_DEPTH = 8;
    private static final int MAX_WINDOW = 3;

    /** Stands where a transition's next state would stand, if there is no transition. */
    private static final int ABSENT = -1;
    /** A time or a text position that was not found. */
    private static final int NOWHERE = -1;

    /** A text row has two entries of three characters, and a separator that the last row lacks. */
    private static final int ENTRY_WIDTH = 3;
    private static final int ROW_WIDTH = 7;
    private static final int SEPARATOR_COLUMN = 6;

    private final Machine machine;
    private final Configuration current;
    private final TypedText typed;
    private final History history;
    private final BackwardSearch backward;
    private final ClosedSetSearch closed;

    public HaltingDecider() {
        machine = new Machine();
        current = new Configuration(MAX_TIME);
        typed = new TypedText();
        history = new History();
        backward = new BackwardSearch();
        closed = new ClosedSetSearch();
    }

    public int setStates(int count) {
        if (count < 1 || count > MAX_STATES) {
            return OUT_OF_RANGE;
        }
        int previous = machine.count;
        machine.reset(count);
        current.begin();
        return previous;
    }

    public int states() {
        return machine.count;
    }

    public int setTransition(int state, int symbol, int write, int move, int next) {
        if (!machine.exists(state) || !(machine.exists(next) || next == HALT)) {
            return NO_SUCH_STATE;
        }
        if (!isSymbol(symbol) || !isSymbol(write) || !(move == LEFT || move == RIGHT)) {
            return OUT_OF_RANGE;
        }
        int before = machine.has(state, symbol) ? 1 : 0;
        machine.put(state, symbol, write, move, next);
        current.begin();
        return before;
    }

    public int removeTransition(int state, int symbol) {
        int error = transitionError(state, symbol);
        if (error != 0) {
            return error;
        }
        machine.put(state, symbol, 0, LEFT, ABSENT);
        current.begin();
        return 1;
    }

    public int writes(int state, int symbol) {
        int error = transitionError(state, symbol);
        return error != 0 ? error : machine.writtenBy(state, symbol);
    }

    public int moves(int state, int symbol) {
        int error = transitionError(state, symbol);
        return error != 0 ? error : machine.moveOf(state, symbol);
    }

    public int next(int state, int symbol) {
        int error = transitionError(state, symbol);
        return error != 0 ? error : machine.nextOf(state, symbol);
    }

    public int type(int character) {
        if (character < 33 || character > 126) {
            return OUT_OF_RANGE;
        }
        return typed.append(character) ? typed.length : TEXT_FULL;
    }

    public int load() {
        int wrong = typed.firstWrong();
        int answer = wrong == NOWHERE ? typed.rowCount() : -1 - wrong;
        if (wrong == NOWHERE) {
            machine.copyFrom(typed);
            current.begin();
        }
        typed.clear();
        return answer;
    }

    public int textAt(int index) {
        if (index < 0 || index >= ROW_WIDTH * machine.count - 1) {
            return NONE;
        }
        return machine.characterAt(index / ROW_WIDTH, index % ROW_WIDTH);
    }

    public int restart() {
        int made = current.time;
        current.begin();
        return made;
    }

    public int step(int steps) {
        if (steps < 1 || steps > MAX_STEPS || current.time + steps > MAX_TIME) {
            return OUT_OF_RANGE;
        }
        if (current.isOver(machine)) {
            return HALTED;
        }
        int made = 0;
        while (made < steps && !current.isOver(machine)) {
            current.advance(machine);
            made++;
        }
        return made;
    }

    public int time() {
        return current.time;
    }

    public int state() {
        return current.state;
    }

    public boolean halted() {
        return current.isOver(machine);
    }

    public int head() {
        return current.head;
    }

    public int cell(int position) {
        return current.tape.read(position);
    }

    public int ones() {
        return current.tape.countOnes();
    }

    public int visited() {
        // The head moves by one cell a step, so the cells that it has been on have no gap.
        return current.highest - current.lowest + 1;
    }

    public int haltingTime(int limit) {
        if (!isLimit(limit)) {
            return OUT_OF_RANGE;
        }
        history.record(machine, limit);
        return history.hasEnded ? history.last : NONE;
    }

    public int cycleStart(int limit) {
        if (!isLimit(limit)) {
            return OUT_OF_RANGE;
        }
        history.record(machine, limit);
        return history.findCycle() ? history.earlier : NONE;
    }

    public int cycleLength(int limit) {
        if (!isLimit(limit)) {
            return OUT_OF_RANGE;
        }
        history.record(machine, limit);
        return history.findCycle() ? history.later - history.earlier : NONE;
    }

    public int driftPeriod(int limit) {
        if (!isLimit(limit)) {
            return OUT_OF_RANGE;
        }
        history.record(machine, limit);
        return history.findDrift() ? history.later - history.earlier : NONE;
    }

    public int driftOffset(int limit) {
        if (!isLimit(limit)) {
            return OUT_OF_RANGE;
        }
        history.record(machine, limit);
        return history.findDrift() ? history.headAt(history.later) - history.headAt(history.earlier) : NONE;
    }

    public int backwardDepth(int limit) {
        if (limit < 1 || limit > MAX_DEPTH) {
            return OUT_OF_RANGE;
        }
        return backward.findDepth(machine, limit);
    }

    public int closedSet(int n) {
        if (n < 1 || n > MAX_WINDOW) {
            return OUT_OF_RANGE;
        }
        return closed.countElements(machine, n);
    }

    public int decide(int limit) {
        if (!isLimit(limit)) {
            return OUT_OF_RANGE;
        }
        history.record(machine, limit);
        if (history.hasEnded) {
            return HALTS;
        }
        if (history.findCycle()) {
            return CYCLES;
        }
        if (history.findDrift()) {
            return DRIFTS;
        }
        if (backward.findDepth(machine, MAX_DEPTH) != NONE) {
            return REFUTED;
        }
        return hasClosedSet() ? CLOSED : UNKNOWN;
    }

    private boolean hasClosedSet() {
        for (int n = 1; n <= MAX_WINDOW; n++) {
            if (closed.countElements(machine, n) != NONE) {
                return true;
            }
        }
        return false;
    }

    /** The error of a call that needs a transition, or 0 if there is one. */
    private int transitionError(int state, int symbol) {
        if (!machine.exists(state)) {
            return NO_SUCH_STATE;
        }
        if (!isSymbol(symbol)) {
            return OUT_OF_RANGE;
        }
        return machine.has(state, symbol) ? 0 : NO_TRANSITION;
    }

    private static boolean isSymbol(int value) {
        return value == 0 || value == 1;
    }

    private static boolean isLimit(int limit) {
        return limit >= 1 && limit <= MAX_LIMIT;
    }

    /** The states and their transitions. */
    private static final class Machine {
        private int count;
        private final int[] written = new int[2 * MAX_STATES];
        private final int[] moved = new int[2 * MAX_STATES];
        private final int[] following = new int[2 * MAX_STATES];

        Machine() {
            reset(FIRST_STATES);
        }

        void reset(int newCount) {
            count = Math.min(newCount, MAX_STATES);
            Arrays.fill(following, ABSENT);
        }

        boolean exists(int state) {
            return state >= 0 && state < count;
        }

        boolean has(int state, int symbol) {
            return nextOf(state, symbol) != ABSENT;
        }

        /** Whether there is no transition for this state and symbol, or only one to HALT. */
        boolean endsAt(int state, int symbol) {
            int slot = slotOf(state, symbol);
            return slot == NOWHERE || following[slot] == ABSENT || following[slot] == HALT;
        }

        void put(int state, int symbol, int write, int move, int next) {
            int slot = slotOf(state, symbol);
            if (slot == NOWHERE) {
                return;
            }
            written[slot] = write;
            moved[slot] = move;
            following[slot] = next;
        }

        int writtenBy(int state, int symbol) {
            int slot = slotOf(state, symbol);
            return slot == NOWHERE ? 0 : written[slot];
        }

        int moveOf(int state, int symbol) {
            int slot = slotOf(state, symbol);
            return slot == NOWHERE ? LEFT : moved[slot];
        }

        int nextOf(int state, int symbol) {
            int slot = slotOf(state, symbol);
            return slot == NOWHERE ? ABSENT : following[slot];
        }

        private int slotOf(int state, int symbol) {
            // These are exists and isSymbol, written out, since the calls that lead here go deep already.
            boolean isThere = state >= 0 && state < count && symbol >= 0 && symbol <= 1;
            return isThere ? 2 * state + symbol : NOWHERE;
        }

        int characterAt(int state, int column) {
            if (column == SEPARATOR_COLUMN) {
                return '_';
            }
            int symbol = column / ENTRY_WIDTH;
            if (!has(state, symbol)) {
                return '-';
            }
            switch (column % ENTRY_WIDTH) {
                case 0:
                    return '0' + writtenBy(state, symbol);
                case 1:
                    return moveOf(state, symbol) == RIGHT ? 'R' : 'L';
                default:
                    return nextOf(state, symbol) == HALT ? 'Z' : 'A' + nextOf(state, symbol);
            }
        }

        /** Takes over the machine of a text that has been found to be correct. */
        void copyFrom(TypedText text) {
            reset(text.rowCount());
            for (int state = 0; state < count; state++) {
                for (int symbol = 0; symbol <= 1; symbol++) {
                    copyEntry(text, state, symbol);
                }
            }
        }

        private void copyEntry(TypedText text, int state, int symbol) {
            int start = ROW_WIDTH * state + ENTRY_WIDTH * symbol;
            int write = text.codeAt(start);
            if (write == '-') {
                return;
            }
            int move = text.codeAt(start + 1) == 'R' ? RIGHT : LEFT;
            int letter = text.codeAt(start + 2);
            put(state, symbol, write - '0', move, letter == 'Z' ? HALT : letter - 'A');
        }
    }

    /** The text that is being typed, and what is wrong with it. */
    private static final class TypedText {
        private static final int CAPACITY = 40;
        private static final int LONGEST_MACHINE = ROW_WIDTH * MAX_STATES - 1;

        private final int[] codes = new int[CAPACITY];
        private int length;

        TypedText() {
            length = 0;
        }

        void clear() {
            length = 0;
        }

        boolean append(int code) {
            if (length < 0 || length >= codes.length) {
                return false;
            }
            codes[length] = code;
            length++;
            return true;
        }

        /** The code at a position, or 0, which no text holds, outside the text. */
        int codeAt(int position) {
            return position >= 0 && position < length && position < codes.length ? codes[position] : 0;
        }

        int rowCount() {
            return (length + 1) / ROW_WIDTH;
        }

        /** The position that load must report, or NOWHERE if the text is correct. */
        int firstWrong() {
            int misplaced = firstMisplaced();
            return misplaced != NOWHERE ? misplaced : firstWithoutRow();
        }

        private int firstMisplaced() {
            for (int position = 0; position < length; position++) {
                if (!fits(position)) {
                    return position;
                }
            }
            return length % ROW_WIDTH == SEPARATOR_COLUMN ? NOWHERE : length;
        }

        private boolean fits(int position) {
            int code = codeAt(position);
            int column = position % ROW_WIDTH;
            if (column == SEPARATOR_COLUMN) {
                return code == '_' && position < LONGEST_MACHINE;
            }
            int part = column % ENTRY_WIDTH;
            if (part == 0) {
                return code == '0' || code == '1' || code == '-';
            }
            if (codeAt(position - part) == '-') {
                return code == '-';
            }
            return part == 1 ? code == 'L' || code == 'R' : code == 'Z' || isStateLetter(code);
        }

        private int firstWithoutRow() {
            int rows = rowCount();
            for (int position = 0; position < length; position++) {
                int code = codeAt(position);
                // A state letter that passed the first check can only be a next state.
                if (isStateLetter(code) && code - 'A' >= rows) {
                    return position;
                }
            }
            return NOWHERE;
        }

        private static boolean isStateLetter(int code) {
            return code >= 'A' && code < 'A' + MAX_STATES;
        }
    }

    /** The cells from -radius to radius, packed 32 to a word; the cells outside hold 0. */
    private static final class Tape {
        private final int radius;
        private final int[] words;

        Tape(int radius) {
            this.radius = Math.max(radius, 0);
            words = new int[wordsFor(this.radius)];
        }

        /** The number of words that hold 2 * radius + 1 cells. */
        static int wordsFor(int radius) {
            return radius < 0 ? 0 : radius / 16 + 1;
        }

        void clear() {
            Arrays.fill(words, 0);
        }

        int read(int position) {
            if (position < -radius || position > radius) {
                return 0;
            }
            return bitOf(words, 0, position + radius);
        }

        void write(int position, int symbol) {
            if (position < -radius || position > radius) {
                return;
            }
            int index = position + radius;
            int bit = 1 << (index & 31);
            int word = index >> 5;
            if (word < words.length) {
                words[word] = symbol == 1 ? words[word] | bit : words[word] & ~bit;
            }
        }

        int countOnes() {
            int sum = 0;
            for (int i = 0; i < words.length; i++) {
                sum += Integer.bitCount(words[i]);
            }
            return sum;
        }

        /** Bit number index of the words that begin at start. */
        static int bitOf(int[] row, int start, int index) {
            int word = start + (index >> 5);
            return word >= 0 && word < row.length ? row[word] >>> (index & 31) & 1 : 0;
        }
    }

    /** A state, a head position and a tape, with the time and the cells that the head has been on. */
    private static final class Configuration {
        private final Tape tape;
        private int state;
        private int head;
        private int time;
        private int lowest;
        private int highest;

        /** The steps must not be more than reach, which keeps the head on the tape. */
        Configuration(int reach) {
            tape = new Tape(reach);
            begin();
        }

        void begin() {
            tape.clear();
            state = 0;
            head = 0;
            time = 0;
            lowest = 0;
            highest = 0;
        }

        boolean isOver(Machine machine) {
            return state == HALT || !machine.has(state, tape.read(head));
        }

        void advance(Machine machine) {
            int symbol = tape.read(head);
            tape.write(head, machine.writtenBy(state, symbol));
            head += machine.moveOf(state, symbol) == RIGHT ? 1 : -1;
            state = machine.nextOf(state, symbol);
            time++;
            lowest = Math.min(lowest, head);
            highest = Math.max(highest, head);
        }
    }

    /** All configurations of a run from the start, for the searches that compare two times of it. */
    private static final class History {
        /** The words of the run's tape, which are those that Tape.wordsFor(MAX_LIMIT) counts. */
        private static final int WORDS = MAX_LIMIT / 16 + 1;

        private final Configuration run = new Configuration(MAX_LIMIT);
        private final int[] stateRow = new int[MAX_LIMIT + 1];
        private final int[] headRow = new int[MAX_LIMIT + 1];
        private final boolean[] rightRecord = new boolean[MAX_LIMIT + 1];
        private final boolean[] leftRecord = new boolean[MAX_LIMIT + 1];
        private final int[] tapeRows = new int[WORDS * (MAX_LIMIT + 1)];
        /** The last time that was reached, and whether the machine has halted then. */
        private int last;
        private boolean hasEnded;
        /** The two times of the cycle or of the drift that was found. */
        private int earlier;
        private int later;

        History() {
            last = 0;
        }

        void record(Machine machine, int limit) {
            run.begin();
            keep(0, true, true);
            int bound = Math.min(limit, MAX_LIMIT);
            int time = 0;
            while (time < bound && !run.isOver(machine)) {
                int lowest = run.lowest;
                int highest = run.highest;
                run.advance(machine);
                time++;
                keep(time, run.head > highest, run.head < lowest);
            }
            last = time;
            hasEnded = run.isOver(machine);
        }

        private void keep(int time, boolean isRight, boolean isLeft) {
            if (time < 0 || time > MAX_LIMIT) {
                return;
            }
            stateRow[time] = run.state;
            headRow[time] = run.head;
            rightRecord[time] = isRight;
            leftRecord[time] = isLeft;
            int[] words = run.tape.words;
            for (int i = 0; i < WORDS && i < words.length; i++) {
                tapeRows[WORDS * time + i] = words[i];
            }
        }

        int stateAt(int time) {
            return time >= 0 && time < stateRow.length ? stateRow[time] : HALT;
        }

        int headAt(int time) {
            return time >= 0 && time < headRow.length ? headRow[time] : 0;
        }

        private int symbolAt(int time, int position) {
            if (time < 0 || time > MAX_LIMIT || position < -MAX_LIMIT || position > MAX_LIMIT) {
                return 0;
            }
            return Tape.bitOf(tapeRows, WORDS * time, position + MAX_LIMIT);
        }

        /**
         * Since a configuration fixes all later ones, a run that has come to a cycle stays on it: the
         * last configuration tells whether there is one and how long it is, and the cycle starts at
         * the first time whose configuration comes again after that many steps.
         */
        boolean findCycle() {
            int before = lastEqualToTheLast();
            if (before == NOWHERE) {
                return false;
            }
            int length = last - before;
            for (int t1 = 0; t1 <= before; t1++) {
                if (areEqual(t1, t1 + length)) {
                    earlier = t1;
                    later = t1 + length;
                    return true;
                }
            }
            return false;
        }

        /** The greatest time before the last one with the same configuration as there, or NOWHERE. */
        private int lastEqualToTheLast() {
            for (int time = last - 1; time >= 0; time--) {
                if (areEqual(time, last)) {
                    return time;
                }
            }
            return NOWHERE;
        }

        private boolean areEqual(int t1, int t2) {
            return headAt(t1) == headAt(t2) && stateAt(t1) == stateAt(t2) && haveEqualTapes(t1, t2);
        }

        private boolean haveEqualTapes(int t1, int t2) {
            if (t1 < 0 || t1 > MAX_LIMIT || t2 < 0 || t2 > MAX_LIMIT) {
                return false;
            }
            for (int i = 0; i < WORDS; i++) {
                if (tapeRows[WORDS * t1 + i] != tapeRows[WORDS * t2 + i]) {
                    return false;
                }
            }
            return true;
        }

        boolean findDrift() {
            for (int t2 = 1; t2 <= last; t2++) {
                int right = driftStart(t2, 1);
                int left = driftStart(t2, -1);
                if (right != NOWHERE || left != NOWHERE) {
                    // No time after 0 is a record on both sides, so only one of them is found.
                    earlier = Math.max(right, left);
                    later = t2;
                    return true;
                }
            }
            return false;
        }

        /**
         * The greatest t1 that makes a drift with t2, or NOWHERE. The way is 1 for a right drift and
         * -1 for a left one: positions times the way turn a left drift into a right drift.
         */
        private int driftStart(int t2, int way) {
            if (!isRecord(t2, way)) {
                return NOWHERE;
            }
            int smallest = way * headAt(t2);
            for (int t1 = t2 - 1; t1 >= 0; t1--) {
                smallest = Math.min(smallest, way * headAt(t1));
                if (isRecord(t1, way) && stateAt(t1) == stateAt(t2) && isShifted(t1, t2, way, smallest)) {
                    return t1;
                }
            }
            return NOWHERE;
        }

        private boolean isRecord(int time, int way) {
            if (time < 0 || time > MAX_LIMIT) {
                return false;
            }
            return way == 1 ? rightRecord[time] : leftRecord[time];
        }

        private boolean isShifted(int t1, int t2, int way, int smallest) {
            int offset = headAt(t2) - headAt(t1);
            for (int c = way * headAt(t1); c >= smallest; c--) {
                int position = way * c;
                if (symbolAt(t1, position) != symbolAt(t2, position + offset)) {
                    return false;
                }
            }
            return true;
        }
    }

    /** The partial configurations of one depth; the known cells and their ones are bits of a word. */
    private static final class Level {
        private static final int CAPACITY = 300;
        /** The bit of cell 0: the head stays within MAX_DEPTH cells of it, well inside the word. */
        private static final int CENTER = 16;

        private final int[] stateRow = new int[CAPACITY];
        private final int[] headRow = new int[CAPACITY];
        private final int[] knownRow = new int[CAPACITY];
        private final int[] onesRow = new int[CAPACITY];
        private int count;
        private boolean isOverfull;

        Level() {
            clear();
        }

        void clear() {
            count = 0;
            isOverfull = false;
        }

        /** Adds what known and ones are, but with the cell under the head known to hold the symbol. */
        void add(int state, int head, int known, int ones, int symbol) {
            if (count < 0 || count >= CAPACITY) {
                isOverfull = true;
                return;
            }
            int bit = 1 << head;
            stateRow[count] = state;
            headRow[count] = head;
            knownRow[count] = known | bit;
            onesRow[count] = symbol == 1 ? ones | bit : ones & ~bit;
            count++;
        }

        boolean matchesStart() {
            for (int i = 0; i < count && i < CAPACITY; i++) {
                if (stateRow[i] == 0 && onesRow[i] == 0) {
                    return true;
                }
            }
            return false;
        }
    }

    /** Goes back from the halting situations, until none is left or one may come from the start. */
    private static final class BackwardSearch {
        private final Level evenDepth;
        private final Level oddDepth;

        BackwardSearch() {
            evenDepth = new Level();
            oddDepth = new Level();
        }

        int findDepth(Machine machine, int limit) {
            addHaltingSituations(machine, evenDepth);
            for (int depth = 0; depth <= limit && depth <= MAX_DEPTH; depth++) {
                Level level = depth % 2 == 0 ? evenDepth : oddDepth;
                if (level.count == 0) {
                    return depth;
                }
                if (depth == limit || level.isOverfull || level.matchesStart()) {
                    return NONE;
                }
                addAllPredecessors(machine, level, depth % 2 == 0 ? oddDepth : evenDepth);
            }
            return NONE;
        }

        private void addHaltingSituations(Machine machine, Level level) {
            level.clear();
            for (int state = 0; state < machine.count; state++) {
                for (int symbol = 0; symbol <= 1; symbol++) {
                    if (machine.endsAt(state, symbol)) {
                        level.add(state, Level.CENTER, 0, 0, symbol);
                    }
                }
            }
        }

        private void addAllPredecessors(Machine machine, Level from, Level to) {
            to.clear();
            // One too many decides the answer already, so that the rest need not be looked at.
            for (int i = 0; i < from.count && i < Level.CAPACITY && !to.isOverfull; i++) {
                for (int state = 0; state < machine.count; state++) {
                    addPredecessor(machine, from, i, to, state, 0);
                    addPredecessor(machine, from, i, to, state, 1);
                }
            }
        }

        /** Adds the predecessor by the transition for this state and symbol, if that fits. */
        private void addPredecessor(Machine machine, Level from, int i, Level to, int state, int symbol) {
            if (i < 0 || i >= Level.CAPACITY || machine.nextOf(state, symbol) != from.stateRow[i]) {
                return;
            }
            int head = from.headRow[i] + (machine.moveOf(state, symbol) == RIGHT ? -1 : 1);
            int known = from.knownRow[i];
            int ones = from.onesRow[i];
            boolean isKnown = (known >>> head & 1) == 1;
            if (isKnown && (ones >>> head & 1) != machine.writtenBy(state, symbol)) {
                return;
            }
            to.add(state, head, known, ones, symbol);
        }
    }

    /**
     * The search for a closed position set. Bit i of a string is the symbol that is i cells further
     * out than the nearest one; a set of strings is a word with bit s for string s.
     */
    private static final class ClosedSetSearch {
        private static final int STRING_BITS = MAX_WINDOW;
        private static final int STRING_MASK = (1 << STRING_BITS) - 1;
        private static final int CAPACITY = 2 * MAX_STATES << 2 * STRING_BITS;
        /** L and R grow by at most all strings, and the pass after the last growth ends the search. */
        private static final int MAX_PASSES = 2 * (STRING_MASK + 1) + 1;

        /** 1 for the local configurations that have been found. */
        private final byte[] marks = new byte[CAPACITY];
        private final int[] found = new int[CAPACITY];
        private int count;
        private int window;
        private int leftStrings;
        private int rightStrings;

        ClosedSetSearch() {
            window = 1;
        }

        int countElements(Machine machine, int n) {
            window = Math.min(Math.max(n, 1), MAX_WINDOW);
            Arrays.fill(marks, (byte) 0);
            count = 0;
            leftStrings = 1;
            rightStrings = 1;
            add(0, 0, 0, 0);
            for (int pass = 0; pass < MAX_PASSES; pass++) {
                int leftBefore = leftStrings;
                int rightBefore = rightStrings;
                if (!handleAll(machine)) {
                    return NONE;
                }
                if (leftStrings == leftBefore && rightStrings == rightBefore) {
                    return count;
                }
            }
            return count;
        }

        /** Handles every local configuration, also those that it adds; false if the search fails. */
        private boolean handleAll(Machine machine) {
            for (int i = 0; i < count && i < CAPACITY; i++) {
                if (!handle(machine, found[i])) {
                    return false;
                }
            }
            return true;
        }

        private boolean handle(Machine machine, int local) {
            int right = local & STRING_MASK;
            int left = local >> STRING_BITS & STRING_MASK;
            int situation = local >> 2 * STRING_BITS;
            int state = situation >> 1;
            int symbol = situation & 1;
            if (machine.endsAt(state, symbol)) {
                return false;
            }
            int next = machine.nextOf(state, symbol);
            int write = machine.writtenBy(state, symbol);
            if (machine.moveOf(state, symbol) == RIGHT) {
                leftStrings |= 1 << left;
                addRightMoves(next, pushed(left, write), right);
            } else {
                rightStrings |= 1 << right;
                addLeftMoves(next, left, pushed(right, write));
            }
            return true;
        }

        private void addRightMoves(int state, int left, int oldRight) {
            for (int x = 0; x <= 1; x++) {
                int right = popped(oldRight, x);
                if ((rightStrings >> right & 1) == 1) {
                    add(state, oldRight & 1, left, right);
                }
            }
        }

        private void addLeftMoves(int state, int oldLeft, int right) {
            for (int x = 0; x <= 1; x++) {
                int left = popped(oldLeft, x);
                if ((leftStrings >> left & 1) == 1) {
                    add(state, oldLeft & 1, left, right);
                }
            }
        }

        /** The string with a symbol put before it, without its last symbol. */
        private int pushed(int string, int symbol) {
            return (string << 1 | symbol) & (1 << window) - 1;
        }

        /** The string without its first symbol, with a symbol put behind it. */
        private int popped(int string, int symbol) {
            return string >> 1 | symbol << window - 1;
        }

        private void add(int state, int symbol, int left, int right) {
            int local = ((2 * state + symbol) << STRING_BITS | left) << STRING_BITS | right;
            if (local < 0 || local >= CAPACITY || count < 0 || count >= CAPACITY || marks[local] != 0) {
                return;
            }
            marks[local] = 1;
            found[count] = local;
            count++;
        }
    }
}
