/**
 * Promises 13 to 18 for every text of at most four bytes of "ab1A,", under many declarations: the
 * answers of the class must be those of the model. The declarations are drawn by a formula of a
 * fixed seed, so that each run of the test makes the same ones.
 */
public final class ShortTextTest {
    private static final int DECLARATIONS = 60;
    private static final int MOST_BYTES = 4;
    private static final String BYTES = "ab1A,";
    private static final String[][] WORDS = {{"a", "b", "ab"}, {"a", "aa", "ba"}, {"a", "aab"},
        {"ab", "a", "b", "ba", "aba", "bb"}};

    private static final Check check = new Check("ShortTextTest");
    private static long seed = 99;

    private PhraseReader x;
    private Model model;

    public static void main(String[] args) {
        for (int i = 0; i < DECLARATIONS; i++) {
            int[] drawn = new int[40];
            for (int k = 0; k < drawn.length; k++) {
                seed = seed * 6364136223846793005L + 1442695040888963407L;
                drawn[k] = (int) ((seed >>> 33) & 0xffff);
            }
            texts(drawn, "");
        }
        check.end();
    }

    /** The text, and all that begin with it. */
    private static void texts(int[] drawn, String text) {
        new ShortTextTest().ask(drawn, text);
        if (text.length() < MOST_BYTES) {
            for (char c : BYTES.toCharArray()) {
                texts(drawn, text + c);
            }
        }
    }

    private void ask(int[] drawn, String text) {
        x = new PhraseReader();
        model = new Model();
        String declared = declare(drawn);
        write(text);
        String of = " of <" + text + "> under " + declared;
        check.due("fault()" + of, x.fault(), model.fault());
        check.due("readings()" + of, x.readings(), model.readings());
        check.due("next()" + of, x.next(), model.next());
        for (int k = 0; k <= text.length(); k++) {
            check.due("occurrence(" + k + ", 0)" + of, x.occurrence(k, 0), model.occurrence(k, 0));
            check.due("occurrence(" + k + ", 1)" + of, x.occurrence(k, 1), model.occurrence(k, 1));
            check.due("occurrence(" + k + ", 2)" + of, x.occurrence(k, 2), model.occurrence(k, 2));
            check.due("normal(" + k + ")" + of, x.normal(k), model.normal(k));
        }
        for (int m = 0; m < model.now.items.size(); m++) {
            check.due("value(" + m + ", 0)" + of, x.value(m, 0), model.value(m, 0));
            check.due("value(" + m + ", 1)" + of, x.value(m, 1), model.value(m, 1));
        }
    }

    /** Declares what was drawn, to both, and tells it. */
    private String declare(int[] drawn) {
        String[] words = WORDS[drawn[0] % WORDS.length];
        for (int m = 0; m < words.length; m++) {
            int most = 1 + drawn[1 + m] % 3;
            int least = drawn[7 + m] % 4 == 0 ? drawn[13 + m] % (most + 1) : 0;
            int kind = drawn[19 + m] % 3;
            write(words[m]);
            check.due("declare", x.declare(kind, least, most), model.declare(kind, least, most));
        }
        int separator = drawn[25] % 2 == 0 ? 44 : 0;
        check.due("setSeparator", x.setSeparator(separator), model.setSeparator(separator));
        for (int i = 0; i < drawn[26] % 4; i++) {
            int a = drawn[27 + i] % words.length, b = drawn[30 + i] % words.length;
            check.due("rule", x.rule(a, b, 1), model.rule(a, b, 1));
        }
        return Check.declared(x);
    }

    private void write(String text) {
        Check.text(x, text);
        model.text = text;
    }
}
