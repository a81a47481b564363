/** Compares answers with those that are due, and prints each one that is not. */
final class Check {
    static final int BAD = -1, STATE = -2, FULL = -3, NONE = -9;

    private final String name;
    private int wrong;
    private long compared;

    Check(String name) {
        this.name = name;
    }

    void due(String call, long got, long want) {
        compared++;
        if (got != want) {
            wrong++;
            System.out.println(name + ": " + call + " answered " + got + ", due is " + want);
        }
    }

    /** Prints what came of it, and ends with exit code 1 if an answer was wrong. */
    void end() {
        System.out.println(name + ": " + compared + " answers, " + wrong + " wrong");
        if (wrong != 0 || compared == 0) {
            System.exit(1);
        }
    }

    /** Makes the text the bytes of a string. */
    static void text(PhraseReader x, String text) {
        x.wipe();
        for (char c : text.toCharArray()) {
            x.write(c);
        }
    }

    /** Declares a member with a word; the text is empty then. */
    static int declare(PhraseReader x, String word, int kind, int least, int most) {
        text(x, word);
        int answer = x.declare(kind, least, most);
        x.wipe();
        return answer;
    }

    /** What told() answers to 0 to 7, and what member() tells, as one string. */
    static String declared(PhraseReader x) {
        StringBuilder all = new StringBuilder();
        all.append(x.told(0)).append(" members, separator ").append(x.told(1));
        for (int m = 0; m < x.told(0); m++) {
            all.append("; ");
            for (int i = 5; i <= 7; i++) {
                if (x.member(m, i) != NONE) {
                    all.append((char) x.member(m, i));
                }
            }
            for (int what = 0; what <= 3; what++) {
                all.append(' ').append(x.member(m, what));
            }
            all.append(" before ").append(x.member(m, 8));
        }
        return all.toString();
    }

    void same(String call, String got, String want) {
        compared++;
        if (!got.equals(want)) {
            wrong++;
            System.out.println(name + ": " + call + " left <" + got + ">, due is <" + want + ">");
        }
    }

    /** The normal form as a string. */
    static String normal(PhraseReader x) {
        StringBuilder form = new StringBuilder();
        for (int i = 0; x.normal(i) >= 0; i++) {
            form.append((char) x.normal(i));
        }
        return form.toString();
    }

    /** The members of an order as a string of digits, or "none". */
    static String order(PhraseReader x, long n) {
        StringBuilder members = new StringBuilder();
        for (int k = 0; x.order(n, k) >= 0; k++) {
            members.append(x.order(n, k));
        }
        return members.toString();
    }

    /** The members of the reading of the text as a string of digits. */
    static String reading(PhraseReader x) {
        StringBuilder members = new StringBuilder();
        for (int k = 0; x.occurrence(k, 0) >= 0; k++) {
            members.append(x.occurrence(k, 0));
        }
        return members.toString();
    }
}
