/**
 * "If several of them apply to one call, the first one in this list is returned": BAD, STATE, FULL;
 * and NONE "is returned only if no error code applies".
 */
public final class ErrorOrderTest {
    private static final Check check = new Check("ErrorOrderTest");
    private static final int LEAST = Integer.MIN_VALUE, MOST = Integer.MAX_VALUE;
    private static final int[][] WRONG_DECLARES = {{-1, 0, 1}, {3, 0, 1}, {0, -1, 1}, {0, 4, 4}, {0, 4, 3}, {0, 0, 0},
        {0, 0, 4}, {0, 2, 1}, {0, 3, 1}, {0, 3, 2}, {LEAST, LEAST, LEAST}, {MOST, MOST, MOST}};
    private static final String[] NO_WORDS = {"", "abcd", "A", "a1", ",", States.SIX_READ, States.SIX_FULL};

    public static void main(String[] args) {
        writeBadAndFull();
        declareAlone();
        declareBadAndState();
        declareBadAndFull();
        declareStateAndFull();
        declareBadStateAndFull();
        readingBadAndState();
        readingBadAndNone();
        readingStateAndNone();
        backBadAndState();
        orderBadAndNone();
        memberBadAndNone();
        check.end();
    }

    private static void writeBadAndFull() {
        PhraseReader x = new PhraseReader();
        Check.text(x, "a".repeat(60));
        for (int code : new int[] {31, 127, -1, 0, LEAST, MOST}) {
            check.due("write(" + code + ") in a full text", x.write(code), Check.BAD);
        }
        for (int code : new int[] {32, 126, 97}) {
            check.due("write(" + code + ") in a full text", x.write(code), Check.FULL);
        }
    }

    private static void dueDeclare(String state, PhraseReader x, int[] w, int code) {
        check.due(state + ": declare(" + w[0] + ", " + w[1] + ", " + w[2] + ")", x.declare(w[0], w[1], w[2]), code);
    }

    private static void declareAlone() {
        for (int[] w : WRONG_DECLARES) {
            PhraseReader x = States.one();
            Check.text(x, "q");
            dueDeclare("BAD alone", x, w, Check.BAD);
        }
        for (String text : NO_WORDS) {
            PhraseReader x = States.one();
            Check.text(x, text);
            dueDeclare("STATE alone, <" + text + ">", x, new int[] {0, 0, 1}, Check.STATE);
        }
        PhraseReader x = States.one();
        Check.text(x, "a");
        dueDeclare("STATE alone, a word that is there", x, new int[] {2, 3, 3}, Check.STATE);
        dueDeclare("FULL alone", States.six("q"), new int[] {0, 0, 1}, Check.FULL);
        dueDeclare("FULL alone", States.six("qqq"), new int[] {2, 3, 3}, Check.FULL);
    }

    private static void declareBadAndState() {
        for (int[] w : WRONG_DECLARES) {
            dueDeclare("no word", States.one(), w, Check.BAD);
            PhraseReader x = States.one();
            Check.text(x, "a");
            dueDeclare("a word that is there", x, w, Check.BAD);
        }
    }

    private static void declareBadAndFull() {
        for (int[] w : WRONG_DECLARES) {
            dueDeclare("six", States.six("q"), w, Check.BAD);
        }
    }

    private static void declareStateAndFull() {
        for (String text : NO_WORDS) {
            dueDeclare("six, <" + text + ">", States.six(text), new int[] {0, 0, 1}, Check.STATE);
        }
        for (String word : new String[] {"a", "ab", "abc", "b", "cd", "z"}) {
            dueDeclare("six, " + word, States.six(word), new int[] {0, 0, 1}, Check.STATE);
        }
    }

    private static void declareBadStateAndFull() {
        for (int[] w : WRONG_DECLARES) {
            for (String text : NO_WORDS) {
                dueDeclare("six, <" + text + ">", States.six(text), w, Check.BAD);
            }
            dueDeclare("six, a word of them", States.six("abc"), w, Check.BAD);
        }
    }

    private static void readingBadAndState() {
        PhraseReader x = States.six("b,");
        check.due("rank(): there is no reading", x.rank(), Check.STATE);
        check.due("occurrence(-1, 0)", x.occurrence(-1, 0), Check.BAD);
        check.due("occurrence(0, 3)", x.occurrence(0, 3), Check.BAD);
        check.due("occurrence(0, -1)", x.occurrence(0, -1), Check.BAD);
        check.due("value(6, 0)", x.value(6, 0), Check.BAD);
        check.due("value(-1, 0)", x.value(-1, 0), Check.BAD);
        check.due("value(0, -1)", x.value(0, -1), Check.BAD);
        check.due("normal(-1)", x.normal(-1), Check.BAD);
        check.due("normal(least)", x.normal(LEAST), Check.BAD);
    }

    private static void readingBadAndNone() {
        PhraseReader x = States.six("b");
        check.due("occurrence(1, 3)", x.occurrence(1, 3), Check.BAD);
        check.due("occurrence(greatest, -1)", x.occurrence(MOST, -1), Check.BAD);
        check.due("value(6, 1)", x.value(6, 1), Check.BAD);
        check.due("value(6, greatest)", x.value(6, MOST), Check.BAD);
        check.due("value(-1, 1)", x.value(-1, 1), Check.BAD);
    }

    private static void readingStateAndNone() {
        PhraseReader x = States.six("b,");
        check.due("occurrence(1, 0)", x.occurrence(1, 0), Check.STATE);
        check.due("occurrence(18, 1)", x.occurrence(18, 1), Check.STATE);
        check.due("occurrence(greatest, 2)", x.occurrence(MOST, 2), Check.STATE);
        check.due("value(0, 1)", x.value(0, 1), Check.STATE);
        check.due("value(5, greatest)", x.value(5, MOST), Check.STATE);
        check.due("value(1, 0), a default", x.value(1, 0), Check.STATE);
        check.due("normal(60)", x.normal(60), Check.STATE);
        check.due("normal(greatest)", x.normal(MOST), Check.STATE);
    }

    private static void backBadAndState() {
        PhraseReader x = new PhraseReader();
        for (int i : new int[] {-1, 2, LEAST, MOST}) {
            check.due("back(" + i + ") where nothing is kept", x.back(i), Check.BAD);
        }
    }

    private static void orderBadAndNone() {
        PhraseReader x = States.one();
        check.due("order(2, 0): there are two", x.order(2, 0), Check.NONE);
        check.due("order(2, -1)", x.order(2, -1), Check.BAD);
        check.due("order(greatest, -1)", x.order(Long.MAX_VALUE, -1), Check.BAD);
        check.due("order(greatest, least)", x.order(Long.MAX_VALUE, LEAST), Check.BAD);
        check.due("order(-1, 1)", x.order(-1, 1), Check.BAD);
        check.due("order(-1, greatest)", x.order(-1, MOST), Check.BAD);
        check.due("order(least, greatest)", x.order(Long.MIN_VALUE, MOST), Check.BAD);
    }

    private static void memberBadAndNone() {
        PhraseReader x = States.one();
        check.due("member(0, 6)", x.member(0, 6), Check.NONE);
        check.due("member(1, 6)", x.member(1, 6), Check.BAD);
        check.due("member(-1, 7)", x.member(-1, 7), Check.BAD);
    }
}
