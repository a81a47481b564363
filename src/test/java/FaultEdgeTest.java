/** Promise 13 at its edges: the fault of a text, clause by clause. */
public final class FaultEdgeTest {
    private static final Check check = new Check("FaultEdgeTest");

    public static void main(String[] args) {
        noneForEachReading();
        zero();
        beginningWithTooFew();
        partsOfAWord();
        partsOfANumber();
        partsOfALetter();
        partsThatMayNotCome();
        separatorBehindTheBeginning();
        separatorWithNothingToCome();
        noSeparatorBehindNothing();
        theGreatestOfSeveral();
        eachPartOfSixtyBytes();
        eachWrongByteOfSixty();
        wholeOfSixtyBytes();
        sixtyBytesAndASeparator();
        check.end();
    }

    private static void due(PhraseReader x, String text, int fault) {
        Check.text(x, text);
        check.due("fault() of <" + text + ">", x.fault(), fault);
    }

    private static PhraseReader with(String word, int kind, int least, int most) {
        PhraseReader x = new PhraseReader();
        Check.declare(x, word, kind, least, most);
        return x;
    }

    /** "The fault of a text is NONE if it has a reading." */
    private static void noneForEachReading() {
        String[] texts = {"b", "b,cd0", "a,b", "a,a,a,b", "b,zZ,zA", "cd001,b,abcX", States.SIX_READ, States.SIX_FULL};
        for (String text : texts) {
            due(States.six(), text, Check.NONE);
        }
        due(new PhraseReader(), "", Check.NONE);
    }

    /** The first 0 bytes are always a beginning. */
    private static void zero() {
        due(States.six(), "", 0);
        for (String text : new String[] {"q", " ", ",", "0", "A", "B", "d", "Z", ",b", " b"}) {
            due(States.six(), text, 0);
            due(new PhraseReader(), text, 0);
        }
    }

    /** "A beginning is a list of occurrences of which the same is true, except for the least numbers." */
    private static void beginningWithTooFew() {
        PhraseReader x = States.letters(3, 2, 3);
        String[] texts = {"", "a", "ab", "abc", "abcabc", "aab", "aabb", "aabbc", "aabbcc", "ccbba", "aaabbbccc",
            "aaaa", "aabbcccc", "aaabbbcccc"};
        int[] dues = {0, 1, 2, 3, Check.NONE, 3, 4, 5, Check.NONE, 5, Check.NONE, 3, 7, 9};
        for (int i = 0; i < texts.length; i++) {
            due(x, texts[i], dues[i]);
        }
    }

    /** "A part of an occurrence consists of at least one of its first bytes, but not all of them." */
    private static void partsOfAWord() {
        for (int separator : new int[] {0, 45}) {
            PhraseReader x = with("abc", 0, 2, 3);
            x.setSeparator(separator);
            String first = separator == 0 ? "abc" : "abc-";
            due(x, "a", 1);
            due(x, "ab", 2);
            due(x, "abc", 3);
            due(x, "abd", 2);
            due(x, "ac", 1);
            due(x, "b", 0);
            due(x, first + "a", first.length() + 1);
            due(x, first + "ab", first.length() + 2);
            due(x, first + "abc", Check.NONE);
            due(x, first + "abx", first.length() + 2);
            due(x, first + "b", first.length());
            due(x, first + "c", first.length());
        }
    }

    private static void partsOfANumber() {
        PhraseReader x = with("nm", 1, 2, 2);
        x.setSeparator(43);
        String[] texts = {"n", "nm", "nm7", "nm77", "nm777", "nm7777", "nm+", "nmA", "nm/", "nm:", "nm7+", "nm7+n",
            "nm7+nm", "nm7+nm0", "nm7+nm00", "nm7+nm000", "nm7+nm0000", "nm7+nm+", "nm7+nm0+", "nm7+nm0+n"};
        int none = Check.NONE;
        int[] dues = {1, 2, 3, 4, 5, 5, 2, 2, 2, 2, 4, 5, 6, none, none, none, 9, 6, 7, 7};
        for (int i = 0; i < texts.length; i++) {
            due(x, texts[i], dues[i]);
        }
    }

    private static void partsOfALetter() {
        PhraseReader x = with("k", 2, 2, 2);
        String[] texts = {"k", "kA", "kZ", "k@", "k[", "ka", "k1", "kk", "kAk", "kAkB", "kAkBk", "kAB", "kA1", "kAk["};
        int[] dues = {1, 2, 2, 1, 1, 1, 1, 1, 3, Check.NONE, 4, 2, 2, 3};
        for (int i = 0; i < texts.length; i++) {
            due(x, texts[i], dues[i]);
        }
    }

    /** "a part of an occurrence, with which the list would still be a beginning" */
    private static void partsThatMayNotCome() {
        PhraseReader x = new PhraseReader();
        Check.declare(x, "abc", 0, 0, 1);
        Check.declare(x, "d", 0, 0, 1);
        Check.declare(x, "def", 0, 0, 1);
        due(x, "abcab", 3);
        due(x, "abcde", 5);
        x.rule(2, 0, 1);
        due(x, "abcde", 4);
        due(x, "abcd", Check.NONE);
        due(x, "dde", 3);
        due(x, "ddg", 2);
        x.rule(2, 1, 1);
        due(x, "dde", 1);
        due(x, "dabca", 4);
        due(x, "defa", 4);
        x.setSeparator(33);
        due(x, "d!abc!", 5);
        due(x, "def!d!ab", 8);
        due(x, "d!de", 2);
        due(x, "def!de", 5);
        due(x, "def!d!de", 6);
    }

    /** "perhaps followed by a separator"; "Behind the separator the part may be missing" */
    private static void separatorBehindTheBeginning() {
        PhraseReader x = States.letters(2, 0, 2);
        x.setSeparator(44);
        String[] texts = {"a,", "a,b,", "a,,", "a,,b", "a,x", "a ,", "a-", "a,b,a,", "ab", "a,ba"};
        int[] dues = {2, 4, 2, 2, 2, 1, 1, 6, 1, 3};
        for (int i = 0; i < texts.length; i++) {
            due(x, texts[i], dues[i]);
        }
        PhraseReader y = States.letters(2, 0, 2);
        due(y, "a,", 1);
        due(y, "a,b", 1);
    }

    /** "if there is a member with an occurrence of which the list would still be a beginning" */
    private static void separatorWithNothingToCome() {
        PhraseReader x = States.letters(2, 0, 1);
        x.setSeparator(44);
        due(x, "a,b,", 3);
        due(x, "a,b,a", 3);
        due(x, "a,", 2);
        due(x, "b,", 2);
        x.rule(0, 1, 1);
        due(x, "b,", 1);
        due(x, "b,a", 1);
        due(x, "a,", 2);
        x.rule(1, 0, 1);
        due(x, "a,", 1);
        due(x, "a,b", 1);
        x.set(0, 2, 2);
        due(x, "a,", 2);
        due(x, "a,a,", 3);
    }

    /** "(if there is one, and the beginning is not empty)" */
    private static void noSeparatorBehindNothing() {
        PhraseReader x = States.letters(6, 0, 3);
        x.setSeparator(47);
        due(x, "/", 0);
        due(x, "//", 0);
        due(x, "/a", 0);
        x.setSeparator(0);
        due(x, "/", 0);
        due(x, "a/", 1);
        due(x, "ab/", 2);
    }

    /** "the greatest number n of bytes": of all lists that the text could begin with. */
    private static void theGreatestOfSeveral() {
        PhraseReader x = new PhraseReader();
        Check.declare(x, "a", 0, 0, 1);
        Check.declare(x, "ab", 0, 0, 1);
        Check.declare(x, "bcd", 0, 0, 1);
        Check.declare(x, "ce", 2, 0, 1);
        due(x, "abc", 3);
        due(x, "abcd", Check.NONE);
        due(x, "abce", 4);
        due(x, "abcf", 3);
        due(x, "abcdc", 5);
        due(x, "abceb", 4);
        due(x, "abceBx", 5);
        x.rule(2, 0, 1);
        due(x, "abcd", 3);
        due(x, "abce", 4);
        x.rule(3, 1, 1);
        due(x, "abce", 2);
        due(x, "abcd", 2);
        x.rule(2, 0, 0);
        due(x, "abcx", 3);
    }

    /** Each part of a full text: its fault is its length, if it has no reading. */
    private static void eachPartOfSixtyBytes() {
        for (int n = 0; n <= 60; n++) {
            String part = States.SIX_FULL.substring(0, n);
            char last = n == 0 ? ' ' : part.charAt(n - 1);
            boolean ended = last >= '0' && last <= '9' || last >= 'A' && last <= 'Z' || n == 7;
            due(States.six(), part, n >= 7 && ended ? Check.NONE : n);
        }
    }

    /** A byte that fits nowhere, at each place of a full text. */
    private static void eachWrongByteOfSixty() {
        for (int at = 0; at < 60; at++) {
            String text = States.SIX_FULL.substring(0, at) + " " + States.SIX_FULL.substring(at + 1);
            PhraseReader x = States.six(text);
            check.due("told(4)", x.told(4), 60);
            check.due("fault() of <" + text + ">", x.fault(), at);
            check.due("readings() of <" + text + ">", x.readings(), 0);
        }
    }

    private static PhraseReader sixWords() {
        PhraseReader x = new PhraseReader();
        Check.declare(x, "abc", 1, 0, 3);
        Check.declare(x, "def", 1, 0, 3);
        Check.declare(x, "ghi", 1, 0, 3);
        Check.declare(x, "j", 0, 0, 3);
        Check.declare(x, "k", 1, 0, 1);
        Check.declare(x, "lmn", 0, 0, 2);
        return x;
    }

    /** 60 bytes that are a beginning, and 60 bytes that end in a part or one byte behind it. */
    private static void wholeOfSixtyBytes() {
        String begun = "abc123".repeat(3) + "def456".repeat(3) + "ghi789".repeat(3);
        PhraseReader x = sixWords();
        due(x, begun + "jjjk12", Check.NONE);
        check.due("told(4)", x.told(4), 60);
        x.set(5, 1, 1);
        check.due("fault() of 60 bytes with too few", x.fault(), 60);
        String[] ends = {"jjjlmn", "lmnlmn", "lmnjlm", "lmnjl ", "lmnjjk", "lmnk1k", "lmnk12", "lmn12k", "lmnlml"};
        int[] dues = {Check.NONE, Check.NONE, 60, 59, 60, 59, Check.NONE, 57, 59};
        for (int i = 0; i < ends.length; i++) {
            due(sixWords(), begun + ends[i], dues[i]);
        }
    }

    /** 60 bytes that end in a separator, behind which a member may come, or none. */
    private static void sixtyBytesAndASeparator() {
        PhraseReader x = States.letters(6, 0, 3);
        x.set(0, 0, 1);
        x.set(1, 0, 1);
        x.set(2, 0, 1);
        x.setSeparator(44);
        String most = "a123,a123,a123,b123,b123,b123,c123,c123,c123,d,d,d,e,e,e,f";
        due(x, most, Check.NONE);
        check.due("told(4)", x.told(4), 58);
        due(x, most.replaceFirst("3", "") + ",f,", 60);
        check.due("told(4)", x.told(4), 60);
        due(x, most + "f,", 58);
        x.set(5, 2, 2);
        due(x, most + ",f", Check.NONE);
        due(x, most.replaceFirst("3", "") + ",f,", 59);
    }
}
