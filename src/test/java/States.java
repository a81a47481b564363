/** Readers from which the edge tests start; each call makes a new object. */
final class States {
    static final String SIX_READ = "a,ab12,b,cd007,abcQ";
    static final String SIX_FULL = "a,a,a,b,ab12,ab123,cd123,cd123,cd123,abcQ,abcQ,abcQ,zA,zA,zA";

    private States() {
    }

    /** No members, an empty text, nothing kept, nothing to undo. */
    static PhraseReader fresh() {
        return new PhraseReader();
    }

    /** One member, which need not occur and occurs once at most; the text is empty. */
    static PhraseReader one() {
        PhraseReader x = new PhraseReader();
        Check.declare(x, "a", 0, 0, 1);
        return x;
    }

    /** Six members of all kinds, of which only b has to occur; the history is full, the text is empty. */
    static PhraseReader six() {
        PhraseReader x = new PhraseReader();
        Check.declare(x, "a", 0, 0, 3);
        Check.declare(x, "ab", 1, 0, 2);
        Check.declare(x, "abc", 2, 0, 3);
        Check.declare(x, "b", 0, 1, 1);
        Check.declare(x, "cd", 1, 0, 3);
        Check.declare(x, "z", 2, 0, 3);
        x.set(1, 3, 999);
        x.set(5, 3, 25);
        x.setSeparator(44);
        x.rule(0, 3, 1);
        x.rule(4, 2, 1);
        return x;
    }

    /** The six members with a text. */
    static PhraseReader six(String text) {
        PhraseReader x = six();
        Check.text(x, text);
        return x;
    }

    /** Members a, b, c and so on, without a value, with the same numbers of times; the text is empty. */
    static PhraseReader letters(int members, int least, int most) {
        PhraseReader x = new PhraseReader();
        for (int m = 0; m < members; m++) {
            Check.declare(x, String.valueOf((char) ('a' + m)), 0, least, most);
        }
        return x;
    }
}
