/**
 * Promises 9 to 11, and TEXT of the description: each sentence that names a boundary has a method of
 * its own.
 */
public final class BoundaryTextTest {
    private static final Checks CHECKS = new Checks();
    private static final int OUT_OF_RANGE = -1002;
    private static final int NONE = -1005;
    private static final int TEXT_FULL = -1006;
    private static final int MIN = Integer.MIN_VALUE;
    private static final int MAX = Integer.MAX_VALUE;
    /** The longest text that is correct: five rows, 34 characters. */
    private static final String FIVE = "1RB1LA_1RC0LD_1RD---_0LA1RE_0RD0RZ";
    private static final String NEW_MACHINE = "------_------";

    public static void main(String[] args) {
        codesFrom33To126();
        codesThatWouldWrap();
        upToFortyCharacters();
        codeIsCheckedBeforeTheLength();
        fullTextStaysAsItIs();
        typingKeepsMachineAndRun();
        loadEmptiesEveryText();
        correctTextReplacesTheMachine();
        wrongTextKeepsMachineAndRun();
        eachCharacterAtEachPlace();
        entryOfMinusSigns();
        atMostFiveRows();
        endsTooEarly();
        emptyText();
        secondPassOnlyAfterTheFirst();
        nextStateMustHaveARow();
        firstMissingRowIsTold();
        haltNeedsNoRow();
        answerIsTheNumberOfStates();
        textAtEnds();
        textAtHasTheRightLength();
        textAtShowsEveryEntry();
        textAtIgnoresTheTypedText();
        CHECKS.finish();
    }

    private static void loads(String text, int want) {
        HaltingDecider x = new HaltingDecider();
        CHECKS.due("10: load() of " + text, Checks.loadText(x, text), want);
        CHECKS.due("10: the machine after " + text, Checks.textOf(x), want > 0 ? text : NEW_MACHINE);
        CHECKS.due("3: states() after " + text, x.states(), want > 0 ? want : 2);
    }

    // Promise 9: "character: code 33 to 126", "OUT_OF_RANGE if the code is out of range".

    private static void codesFrom33To126() {
        for (int code = -5; code <= 300; code++) {
            HaltingDecider x = new HaltingDecider();
            boolean isTaken = code >= 33 && code <= 126;
            CHECKS.due("9: type(" + code + ")", x.type(code), isTaken ? 1 : OUT_OF_RANGE);
            CHECKS.due("9: the next one", x.type(49), isTaken ? 2 : 1);
        }
    }

    /** Codes that are 49 again if only their last 7, 8 or 16 bits are looked at. */
    private static void codesThatWouldWrap() {
        int[] codes = {MIN, MIN + 49, -65487, -207, -79, 49 + 128, 49 + 256, 49 + 65536, MAX - 77, MAX};
        HaltingDecider x = new HaltingDecider();
        for (int code : codes) {
            CHECKS.due("9: type(" + code + ")", x.type(code), OUT_OF_RANGE);
        }
        CHECKS.due("9: the text is still empty", x.type(49), 1);
    }

    // "Returns the length of the text", "TEXT_FULL if the text has 40 characters".

    private static void upToFortyCharacters() {
        HaltingDecider x = new HaltingDecider();
        for (int length = 1; length <= 40; length++) {
            CHECKS.due("9: type, number " + length, x.type(32 + length), length);
        }
        for (int code = 33; code <= 126; code++) {
            CHECKS.due("9: type(" + code + ") on a full text", x.type(code), TEXT_FULL);
        }
        x.load();
        CHECKS.due("9: type(126) after load", x.type(126), 1);
    }

    /** "OUT_OF_RANGE if the code is out of range (checked first)". */
    private static void codeIsCheckedBeforeTheLength() {
        HaltingDecider x = new HaltingDecider();
        Checks.typeAll(x, "1".repeat(40));
        int[] codes = {MIN, -1, 0, 32, 127, 128, 65585, MAX};
        for (int code : codes) {
            CHECKS.due("9: type(" + code + ") on a full text", x.type(code), OUT_OF_RANGE);
        }
        CHECKS.due("9: type(33) on a full text", x.type(33), TEXT_FULL);
        CHECKS.due("9: type(126) on a full text", x.type(126), TEXT_FULL);
    }

    /** A character that is refused does not take the place of another one, at no end of the text. */
    private static void fullTextStaysAsItIs() {
        HaltingDecider x = new HaltingDecider();
        Checks.typeAll(x, FIVE + "_1RA1L");
        Checks.typeAll(x, "????????");
        CHECKS.due("10: the 35th character is the first wrong one", x.load(), -35);
        Checks.typeAll(x, "?" + FIVE + "_1RA1");
        Checks.typeAll(x, "0");
        CHECKS.due("10: the first character is the first wrong one", x.load(), -1);
    }

    private static void typingKeepsMachineAndRun() {
        HaltingDecider x = Checks.machine("1RB1LB_1LA1RZ");
        x.step(4);
        String face = Checks.faceOf(x);
        Checks.typeAll(x, "0".repeat(41));
        CHECKS.due("9: the state after typing", Checks.faceOf(x), face);
    }

    // Promise 10: "Reads the machine from the text and empties the text, whether the text is correct
    // or not."

    private static void loadEmptiesEveryText() {
        String[] texts = {"", "1RA1LA", FIVE, "?", "1RA", "1RA1LX", "1RA1LB", FIVE + "_", "1".repeat(40)};
        for (String text : texts) {
            HaltingDecider x = new HaltingDecider();
            Checks.loadText(x, text);
            CHECKS.due("10: load() again after " + text, x.load(), -1);
            CHECKS.due("9: type(49) after load() of " + text, x.type(49), 1);
        }
    }

    /** "If it is correct, the machine is replaced and the start configuration becomes current". */
    private static void correctTextReplacesTheMachine() {
        String[] texts = {"------", "1RA1LA", "1RB1LB_1LA1RZ", "1RB1LB_1LA1RZ_------", FIVE};
        for (String before : texts) {
            for (String after : texts) {
                HaltingDecider x = Checks.machine(before);
                x.step(3);
                Checks.loadText(x, after);
                CHECKS.due("10: after " + before, Checks.faceOf(x), Checks.faceOf(Checks.machine(after)));
            }
        }
    }

    /** "otherwise the machine and the current configuration do not change", for each way to be wrong. */
    private static void wrongTextKeepsMachineAndRun() {
        String[] texts = {"", "?", "1", "0RA0R", "0RA0RA_", "1RB1LB", "0RA0RA_0RA0RC", FIVE + "_", "1".repeat(40)};
        int[] steps = {1, 3, 6};
        for (String text : texts) {
            for (int made : steps) {
                HaltingDecider x = Checks.machine("1RB1LB_1LA1RZ");
                x.step(made);
                String face = Checks.faceOf(x);
                CHECKS.due("10: " + text + " is wrong", Checks.loadText(x, text) < 0, true);
                CHECKS.due("10: the state after " + text, Checks.faceOf(x), face);
            }
        }
    }

    // "In the first pass a character is wrong if it cannot stand there: each character must be one
    // that the format allows after the characters before it".

    private static void eachCharacterAtEachPlace() {
        String[] allowed = {"01-", "LR", "ABCDEZ", "01-", "LR", "ABCDEZ", "_"};
        for (int i = 0; i < 34; i++) {
            // The text ends behind the character, so that a right one shows a text that is too short.
            String before = "_1RA0LA".repeat(5).substring(1, 1 + i);
            boolean isWhole = i % 7 == 5;
            for (char c = 33; c <= 126; c++) {
                boolean mayStand = allowed[i % 7].indexOf(c) >= 0;
                int rows = i / 7 + 1;
                if (!mayStand) {
                    loads(before + c, -1 - i);
                } else if (!isWhole) {
                    loads(before + c, -2 - i);
                } else {
                    loads(before + c, c == 'Z' || c - 'A' < rows ? rows : -1 - i);
                }
            }
        }
    }

    /** "or it is "---"": after the first '-' of an entry only two more may stand, and only there. */
    private static void entryOfMinusSigns() {
        for (int entry = 0; entry < 10; entry++) {
            int at = entry / 2 * 7 + entry % 2 * 3;
            String before = "_1RA0LA".repeat(5).substring(1, 1 + at);
            for (char c = 33; c <= 126; c++) {
                loads(before + "-" + c, c == '-' ? -3 - at : -2 - at);
                int rows = entry / 2 + 1;
                int whole = entry % 2 == 1 ? rows : -4 - at;
                loads(before + "--" + c, c == '-' ? whole : -3 - at);
            }
            loads(before + "1-", -2 - at);
            loads(before + "1R-", -3 - at);
            loads(before + "----".substring(entry % 2), entry % 2 == 0 ? -5 - at : entry / 2 + 1);
        }
    }

    /** "with at most 5 rows": behind the fifth row no character can stand. */
    private static void atMostFiveRows() {
        loads(FIVE, 5);
        for (char c = 33; c <= 126; c++) {
            loads(FIVE + c, -35);
        }
        loads(FIVE + "_1RA1L", -35);
        loads("------_------_------_------_------_-----", -35);
        // A wrong character before it is the first one.
        loads(FIVE.substring(0, 33) + "?_", -34);
    }

    /** "if the text ends too early, the position after its last character is wrong". */
    private static void endsTooEarly() {
        for (int length = 0; length <= 34; length++) {
            String text = "1RA0LA_---1RZ_0LB---_1LC0RB_1RA0RE".substring(0, length);
            loads(text, length % 7 == 6 ? (length + 1) / 7 : -1 - length);
        }
        loads("-", -2);
        loads("------_", -8);
    }

    /** "(position 0 for an empty text)". */
    private static void emptyText() {
        loads("", -1);
        HaltingDecider x = Checks.machine(FIVE);
        CHECKS.due("10: load() of the empty text", x.load(), -1);
        CHECKS.due("10: the machine stays", Checks.textOf(x), FIVE);
    }

    // "In the second pass, which is only made if the first one found nothing, a next state whose row
    // does not exist is wrong."

    private static void secondPassOnlyAfterTheFirst() {
        loads("1RB1R?", -6);
        loads("1RB1RA?", -7);
        loads("1RE1RE_1RE1R", -13);
        loads("1RE1RE_", -8);
        loads("1RC1RA_1RA1R1", -13);
        // A letter that is no state of any machine is found in the first pass.
        loads("1RE1RF", -6);
        loads("1RB1RA", -3);
    }

    private static void nextStateMustHaveARow() {
        for (int rows = 1; rows <= 5; rows++) {
            for (int letter = 0; letter < 5; letter++) {
                String other = "_0LA1RZ".repeat(rows - 1);
                char c = (char) ('A' + letter);
                loads("1R" + c + "---" + other, letter < rows ? rows : -3);
                loads("---1R" + c + other, letter < rows ? rows : -6);
                String first = "0LA1RZ_".repeat(rows - 1);
                loads(first + "1R" + c + "---", letter < rows ? rows : -3 - 7 * (rows - 1));
                loads(first + "---0L" + c, letter < rows ? rows : -6 - 7 * (rows - 1));
            }
        }
    }

    private static void firstMissingRowIsTold() {
        loads("1RB1RC", -3);
        loads("1RC1RB", -3);
        loads("1RA1RC_1RD1RE", -6);
        loads("1RA1RB_1RE1RC", -10);
        loads("1RA1RB_1RA1RC_1RD1RE_1RA1RE", -20);
    }

    private static void haltNeedsNoRow() {
        loads("1RZ0LZ", 1);
        loads("1RZ0LZ_0RZ1LZ", 2);
        loads("1RZ0LZ_0RZ1LZ_1RZ1RZ_0LZ0LZ_0RZ---", 5);
    }

    /** "Returns the number of states if the text is correct": 1 to 5, by 6 to 34 characters. */
    private static void answerIsTheNumberOfStates() {
        for (int rows = 1; rows <= 5; rows++) {
            loads("_------".repeat(rows).substring(1), rows);
            loads(FIVE.replace('B', 'A').replace('C', 'A').replace('D', 'A').replace('E', 'A').substring(0, 7 * rows - 1), rows);
        }
    }

    // Promise 11: "index: from 0", "NONE if there is no such character", "The machine's text has
    // 7 * states() - 1 characters."

    private static void textAtEnds() {
        HaltingDecider x = Checks.machine(FIVE);
        CHECKS.due("11: textAt(0)", x.textAt(0), '1');
        CHECKS.due("11: textAt(33)", x.textAt(33), 'Z');
        int[] outside = {MIN, MIN + 1, -65536, -34, -7, -1, 34, 35, 40, 256, 65536, MAX - 1, MAX};
        for (int index : outside) {
            CHECKS.due("11: textAt(" + index + ")", x.textAt(index), NONE);
        }
    }

    private static void textAtHasTheRightLength() {
        for (int count = 1; count <= 5; count++) {
            HaltingDecider x = new HaltingDecider();
            x.setStates(count);
            for (int index = -10; index <= 60; index++) {
                boolean isThere = index >= 0 && index <= 7 * count - 2;
                CHECKS.due("11: textAt(" + index + ") of " + count, x.textAt(index),
                        !isThere ? NONE : index % 7 == 6 ? '_' : '-');
            }
        }
    }

    private static void textAtShowsEveryEntry() {
        for (int state = 0; state < 5; state++) {
            for (int symbol = 0; symbol <= 1; symbol++) {
                HaltingDecider x = new HaltingDecider();
                x.setStates(5);
                StringBuilder want = new StringBuilder("------_------_------_------_------");
                int at = 7 * state + 3 * symbol;
                int next = symbol == 0 ? state : 9;
                x.setTransition(state, symbol, 1 - symbol, symbol, next);
                want.replace(at, at + 3, symbol == 0 ? "1L" + "ABCDE".charAt(state) : "0RZ");
                CHECKS.due("11: state " + state + ", symbol " + symbol, Checks.textOf(x), want.toString());
                x.removeTransition(state, symbol);
                CHECKS.due("11: after removing it", Checks.textOf(x), "------_------_------_------_------");
            }
        }
    }

    /** "The text that is being typed does not matter." */
    private static void textAtIgnoresTheTypedText() {
        HaltingDecider x = Checks.machine("1RB1LB_1LA1RZ");
        Checks.typeAll(x, FIVE);
        CHECKS.due("11: the machine's text", Checks.textOf(x), "1RB1LB_1LA1RZ");
        CHECKS.due("11: and the typed text stays", x.load(), 5);
        CHECKS.due("11: the machine's text after load", Checks.textOf(x), FIVE);
        Checks.loadText(x, "1RB");
        CHECKS.due("11: the machine's text after a wrong load", Checks.textOf(x), FIVE);
    }
}
