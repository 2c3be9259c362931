/** Promises 9 to 11: typing, loading and reading the text of a machine. */
public final class TextTest {
    private static final Checks CHECKS = new Checks();
    private static final int OUT_OF_RANGE = -1002;
    private static final int NONE = -1005;
    private static final int TEXT_FULL = -1006;
    private static final String FIVE_ROWS = "1RB1LA_1RC0LD_1RD---_0LA1RE_0RD0RZ";

    public static void main(String[] args) {
        typing();
        correctTexts();
        misplacedCharacters();
        tooShort();
        tooLong();
        missingRows();
        loadEmptiesTheText();
        wrongTextChangesNothing();
        correctTextStartsAnew();
        textAt();
        CHECKS.finish();
    }

    private static void typing() {
        HaltingDecider x = new HaltingDecider();
        CHECKS.due("9: type(32)", x.type(32), OUT_OF_RANGE);
        CHECKS.due("9: type(127)", x.type(127), OUT_OF_RANGE);
        CHECKS.due("9: type(-50)", x.type(-50), OUT_OF_RANGE);
        CHECKS.due("9: type(MAX)", x.type(Integer.MAX_VALUE), OUT_OF_RANGE);
        CHECKS.due("9: type(MIN)", x.type(Integer.MIN_VALUE), OUT_OF_RANGE);
        CHECKS.due("9: type(33)", x.type(33), 1);
        CHECKS.due("9: type(126)", x.type(126), 2);
        for (int length = 3; length <= 40; length++) {
            CHECKS.due("9: type(49)", x.type(49), length);
        }
        CHECKS.due("9: the 41st", x.type(49), TEXT_FULL);
        CHECKS.due("9: the 41st again", x.type(95), TEXT_FULL);
        CHECKS.due("9: a wrong code on a full text", x.type(32), OUT_OF_RANGE);
        CHECKS.due("9: states() stays", x.states(), 2);
        CHECKS.due("10: the first character is wrong", x.load(), -1);
        CHECKS.due("9: type(49) after load", x.type(49), 1);
    }

    private static void loads(String text, int want) {
        HaltingDecider x = new HaltingDecider();
        CHECKS.due("10: load() of " + text, Checks.loadText(x, text), want);
        String machine = want > 0 ? text : "------_------";
        CHECKS.due("11: the machine after " + text, Checks.textOf(x).equals(machine), true);
    }

    private static void correctTexts() {
        loads("------", 1);
        loads("1RA0LZ", 1);
        loads("---1LA", 1);
        loads("0RZ---", 1);
        loads("1RB1LB_1LA1RZ", 2);
        loads("1RB1RZ_1LB0RC_1LC1LA", 3);
        loads("1RB1LB_1LA0LC_1RZ1LD_1RD0RA", 4);
        loads(FIVE_ROWS, 5);
        loads("------_------_------_------_------", 5);
    }

    /** Puts each character at each place of a correct text; the text tells which ones are right. */
    private static void misplacedCharacters() {
        String text = "1RB---_0LA1RZ";
        String[] right = {"01-", "LR", "ABCDEZ", "01-", "-", "-", "_", "01-", "LR", "ABCDEZ", "01-", "LR", "ABCDEZ"};
        for (int i = 0; i < text.length(); i++) {
            for (char c = 33; c <= 126; c++) {
                String changed = text.substring(0, i) + c + text.substring(i + 1);
                HaltingDecider x = new HaltingDecider();
                int answer = Checks.loadText(x, changed);
                boolean mayStand = right[i].indexOf(c) >= 0;
                if (!mayStand) {
                    CHECKS.due("10: load() of " + changed, answer, -1 - i);
                } else if ((c == '-') != (text.charAt(i) == '-')) {
                    // The entry has become another kind, so that its next character is the wrong one.
                    CHECKS.due("10: load() of " + changed, answer, -2 - i);
                } else if (c >= 'C' && c <= 'E') {
                    CHECKS.due("10: load() of " + changed, answer, -1 - i);
                } else {
                    CHECKS.due("10: load() of " + changed, answer, 2);
                }
            }
        }
        loads("1-A1RA", -2);
        loads("-RA1RA", -2);
        loads("--A1RA", -3);
        loads("1R-1RA", -3);
        loads("1RA_", -4);
        loads("1RF1RA", -3);
        loads("1RY1RA", -3);
        loads("1RA1RA1", -7);
        loads("1ra1ra", -2);
        loads("2RA1RA", -1);
        loads("_1RA1RA", -1);
        loads("1RA1RA__1RA1RA", -8);
    }

    private static void tooShort() {
        loads("", -1);
        for (int length = 1; length < FIVE_ROWS.length(); length++) {
            String text = FIVE_ROWS.substring(0, length);
            if (length % 7 != 6) {
                loads(text, -1 - length);
            }
        }
        // The end is found in the first pass, before the row that does not exist.
        loads("1RE1RE_", -8);
        loads("1RE1R", -6);
    }

    private static void tooLong() {
        loads(FIVE_ROWS + "_", -35);
        loads(FIVE_ROWS + "_1RA1R", -35);
        loads(FIVE_ROWS + "0", -35);
        loads("1RX1LA_1RC0LD_1RD---_0LA1RE_0RD0RZ_1RA1R", -3);
    }

    private static void missingRows() {
        loads("1RB1RA", -3);
        loads("1RA1RB", -6);
        loads("1RA1RC_1RA1RA", -6);
        loads("1RA1RB_1RD1RC", -10);
        loads("1RA1RB_1RA1RC", -13);
        loads("1RE1RX", -6);
        loads("1RE1RA_1RB1RC_1RD1RA_1RA1RA", -3);
        loads("1RD1RA_1RB1RC_1RD1RA_1RA1RE", -27);
        loads("1RD1RA_1RB1RC_1RD1RA_1RA1RZ", 4);
    }

    private static void loadEmptiesTheText() {
        HaltingDecider x = new HaltingDecider();
        CHECKS.due("10: a correct text", Checks.loadText(x, "1RA1LA"), 1);
        CHECKS.due("10: empty after it", x.load(), -1);
        CHECKS.due("10: a wrong text", Checks.loadText(x, "1RA1LX"), -6);
        CHECKS.due("10: empty after it", x.load(), -1);
        CHECKS.due("10: a row is missing", Checks.loadText(x, "1RA1LB"), -6);
        CHECKS.due("10: empty after it", x.load(), -1);
        CHECKS.due("10: a short text after a long one", Checks.loadText(x, "0L"), -3);
        CHECKS.due("10: the machine is the first", Checks.textOf(x).equals("1RA1LA"), true);
    }

    private static void wrongTextChangesNothing() {
        HaltingDecider x = Checks.machine("1RB1LB_1LA1RZ");
        x.step(4);
        int head = x.head();
        String[] wrong = {"", "1RA", "1RC1RA_1RA1RA", "0RA0RA_"};
        for (String text : wrong) {
            CHECKS.due("10: " + text + " is wrong", Checks.loadText(x, text) < 0, true);
            CHECKS.due("10: time() stays", x.time(), 4);
            CHECKS.due("10: head() stays", x.head(), head);
            CHECKS.due("10: the machine stays", Checks.textOf(x).equals("1RB1LB_1LA1RZ"), true);
        }
    }

    private static void correctTextStartsAnew() {
        HaltingDecider x = Checks.machine("1RA1RA");
        x.step(9);
        CHECKS.due("10: the same text", Checks.loadText(x, "1RA1RA"), 1);
        CHECKS.due("10: time()", x.time(), 0);
        CHECKS.due("10: ones()", x.ones(), 0);
        CHECKS.due("10: head()", x.head(), 0);
        CHECKS.due("10: visited()", x.visited(), 1);
        Checks.loadText(x, FIVE_ROWS);
        Checks.loadText(x, "---1RZ");
        CHECKS.due("10: states()", x.states(), 1);
        x.setStates(5);
        CHECKS.due("10: later rows are gone", Checks.textOf(x).equals("------_------_------_------_------"), true);
    }

    private static void textAt() {
        HaltingDecider x = Checks.machine(FIVE_ROWS);
        for (int i = 0; i < 34; i++) {
            CHECKS.due("11: textAt(" + i + ")", x.textAt(i), FIVE_ROWS.charAt(i));
        }
        int[] outside = {-1, 34, 35, 40, Integer.MAX_VALUE, Integer.MIN_VALUE};
        for (int index : outside) {
            CHECKS.due("11: textAt(" + index + ")", x.textAt(index), NONE);
        }
        for (int count = 1; count <= 5; count++) {
            x.setStates(count);
            CHECKS.due("11: the last character", x.textAt(7 * count - 2), '-');
            CHECKS.due("11: after the last", x.textAt(7 * count - 1), NONE);
        }
        Checks.typeAll(x, "0LZ");
        CHECKS.due("11: the typed text does not matter", x.textAt(0), '-');
        CHECKS.due("11: nor is it changed", x.type(49), 4);
    }
}
