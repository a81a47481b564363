/** Promises 13 to 18: fault, readings, occurrence, value, next, normal. */
public final class ReadingTest {
    private static final Check check = new Check("ReadingTest");

    public static void main(String[] args) {
        faultOfEmptyText();
        faultWithoutSeparator();
        faultWithSeparator();
        faultOfNumbers();
        faultUnderRules();
        faultOfClashingWords();
        faultOfSixtyBytes();
        faultOfSixtyBytesThatClash();
        readings();
        readingsAreCut();
        readingsFollowChanges();
        removedMembersSayNothing();
        occurrence();
        occurrenceOfTheFirstReading();
        numbers();
        value();
        next();
        nextOfSeveralBeginnings();
        normal();
        wrongArguments();
        check.end();
    }

    private static void dueFault(PhraseReader x, String text, int fault) {
        Check.text(x, text);
        check.due("fault() of <" + text + ">", x.fault(), fault);
        check.due("readings() > 0 of <" + text + ">", x.readings() > 0 ? 1 : 0, fault == Check.NONE ? 1 : 0);
    }

    private static void faultOfEmptyText() {
        PhraseReader x = new PhraseReader();
        dueFault(x, "", Check.NONE);
        dueFault(x, "a", 0);
        Check.declare(x, "a", 0, 0, 1);
        dueFault(x, "", Check.NONE);
        x.set(0, 1, 1);
        dueFault(x, "", 0);
    }

    private static void faultWithoutSeparator() {
        PhraseReader x = new PhraseReader();
        Check.declare(x, "abc", 0, 1, 1);
        Check.declare(x, "de", 2, 0, 2);
        Check.declare(x, "f", 1, 0, 1);
        dueFault(x, "abc", Check.NONE);
        dueFault(x, "deZ", 3);
        dueFault(x, "a", 1);
        dueFault(x, "ab", 2);
        dueFault(x, "abd", 2);
        dueFault(x, "x", 0);
        dueFault(x, "abcx", 3);
        dueFault(x, "abca", 3);
        dueFault(x, "abcd", 4);
        dueFault(x, "abcde", 5);
        dueFault(x, "abcde1", 5);
        dueFault(x, "abcdea", 5);
        dueFault(x, "abcde@", 5);
        dueFault(x, "abcde[", 5);
        dueFault(x, "abcdeA", Check.NONE);
        dueFault(x, "abcdeAdeZ", Check.NONE);
        dueFault(x, "abcdeAdeZdeB", 9);
        dueFault(x, "abcf", 4);
        dueFault(x, "abcfA", 4);
        dueFault(x, "abcf1", Check.NONE);
        dueFault(x, "abcf/", 4);
        dueFault(x, "abcf:", 4);
        dueFault(x, "abc,f1", 3);
        dueFault(x, " abc", 0);
    }

    private static void faultWithSeparator() {
        PhraseReader x = new PhraseReader();
        Check.declare(x, "ab", 0, 1, 2);
        Check.declare(x, "c", 1, 0, 1);
        x.setSeparator(44);
        dueFault(x, "", 0);
        dueFault(x, ",", 0);
        dueFault(x, ",ab", 0);
        dueFault(x, "ab", Check.NONE);
        dueFault(x, "ab,", 3);
        dueFault(x, "ab,,", 3);
        dueFault(x, "ab,x", 3);
        dueFault(x, "ab,a", 4);
        dueFault(x, "abab", 2);
        dueFault(x, "ab-ab", 2);
        dueFault(x, "ab,ab", Check.NONE);
        dueFault(x, "ab,ab,ab", 6);
        dueFault(x, "ab,ab,c", 7);
        dueFault(x, "ab,ab,c1", Check.NONE);
        dueFault(x, "ab,ab,c1,", 8);
        dueFault(x, "c1", 2);
        dueFault(x, "c,ab", 1);
        dueFault(x, "c1,ab,a", 7);
        dueFault(x, "c1,ab,c", 6);
        dueFault(x, "c1,ab,ab,", 8);
    }

    private static void faultOfNumbers() {
        PhraseReader x = new PhraseReader();
        Check.declare(x, "n", 1, 1, 3);
        dueFault(x, "n", 1);
        dueFault(x, "n1", Check.NONE);
        dueFault(x, "n12", Check.NONE);
        dueFault(x, "n123", Check.NONE);
        dueFault(x, "n1234", 4);
        dueFault(x, "n000n00n0", Check.NONE);
        dueFault(x, "n000n00n0n", 9);
        dueFault(x, "n0000", 4);
        dueFault(x, "nn1", 1);
        x.set(0, 1, 2);
        dueFault(x, "n999", 4);
        dueFault(x, "n999n", 5);
    }

    private static void faultUnderRules() {
        PhraseReader x = new PhraseReader();
        Check.declare(x, "a", 0, 0, 1);
        Check.declare(x, "b", 0, 0, 1);
        Check.declare(x, "cc", 0, 0, 2);
        x.setSeparator(47);
        x.rule(0, 1, 1);
        dueFault(x, "a/b", Check.NONE);
        dueFault(x, "b/a", 2);
        dueFault(x, "b/cc/a", 5);
        x.rule(2, 1, 1);
        dueFault(x, "b/c", 1);
        dueFault(x, "b/", 1);
        dueFault(x, "b", Check.NONE);
        dueFault(x, "cc/b/cc", 4);
        x.rule(1, 0, 1);
        dueFault(x, "a/b", 2);
        dueFault(x, "a/cc/b", 5);
        dueFault(x, "a/cc/cc/", 7);
    }

    private static void faultOfClashingWords() {
        PhraseReader x = new PhraseReader();
        Check.declare(x, "a", 0, 0, 1);
        Check.declare(x, "ab", 1, 0, 1);
        Check.declare(x, "abc", 2, 0, 1);
        Check.declare(x, "b", 0, 0, 1);
        dueFault(x, "ab", Check.NONE);
        dueFault(x, "ab7", Check.NONE);
        dueFault(x, "abb", 2);
        dueFault(x, "abc", 3);
        dueFault(x, "abcb", 3);
        dueFault(x, "abcQ", Check.NONE);
        dueFault(x, "abcQab", Check.NONE);
        dueFault(x, "abcQabc", 6);
        dueFault(x, "abcQabab5b", 9);
        dueFault(x, "abcQab5ab", Check.NONE);
        x.set(0, 0, 1);
        x.set(0, 1, 1);
        x.set(1, 0, 0);
        dueFault(x, "ab", 2);
        dueFault(x, "a3ab", Check.NONE);
        x.set(0, 0, 2);
        dueFault(x, "ab", 2);
        dueFault(x, "aCab", Check.NONE);
    }

    private static final String FIFTY_ONE = "xay001!xay01!xay1!xby100!xby10!xby0!xcy9!xcy999!xcy";

    private static PhraseReader threeNumbers() {
        PhraseReader x = new PhraseReader();
        for (char c = 'a'; c <= 'c'; c++) {
            Check.declare(x, "x" + c + "y", 1, 0, 3);
        }
        x.setSeparator(33);
        return x;
    }

    private static void faultOfSixtyBytes() {
        PhraseReader x = threeNumbers();
        dueFault(x, FIFTY_ONE, FIFTY_ONE.length());
        Check.text(x, FIFTY_ONE + "000");
        check.due("fault() of 54 bytes", x.fault(), Check.NONE);
        check.due("occurrence(8, 1)", x.occurrence(8, 1), 48);
        x.set(0, 0, 1);
        Check.declare(x, "d", 0, 0, 3);
        dueFault(x, FIFTY_ONE + "000!d!d!d", Check.NONE);
        check.due("told(4)", x.told(4), 60);
        check.due("fault() with a byte too many", x.write('d'), Check.FULL);
        dueFault(x, FIFTY_ONE + "000!d!d!!", 59);
        dueFault(x, FIFTY_ONE + "000!d!d!x", 59);
    }

    private static void faultOfSixtyBytesThatClash() {
        PhraseReader x = threeNumbers();
        Check.declare(x, "d", 0, 0, 3);
        Check.declare(x, "dd", 0, 0, 3);
        dueFault(x, FIFTY_ONE + "000!dd!dd", Check.NONE);
        dueFault(x, FIFTY_ONE + "000!d!d!e", 59);
        x.set(3, 2, 1);
        Check.text(x, FIFTY_ONE + "000!d!dd!");
        check.due("fault() of 60 bytes that go on", x.fault(), 60);
        check.due("next()", x.next(), Check.NONE);
    }

    private static void readings() {
        PhraseReader x = new PhraseReader();
        check.due("readings() of the empty text", x.readings(), 1);
        Check.declare(x, "a", 0, 0, 2);
        Check.declare(x, "ab", 0, 0, 2);
        Check.declare(x, "b", 0, 0, 2);
        int[] dues = {1, 1, 2, 2, 4};
        String text = "abab";
        for (int n = 0; n <= 4; n++) {
            Check.text(x, text.substring(0, n));
            check.due("readings() of <" + text.substring(0, n) + ">", x.readings(), dues[n]);
        }
        x.set(1, 1, 1);
        check.due("readings() with ab at least once", x.readings(), 3);
        x.set(0, 1, 1);
        check.due("readings() with a at least once too", x.readings(), 2);
        x.rule(1, 0, 1);
        check.due("readings() with ab before a", x.readings(), 1);
        check.same("reading", Check.reading(x), "102");
        x.setSeparator(44);
        check.due("readings() with a separator", x.readings(), 0);
    }

    /** The text has 1154300 readings of members without rules, and 859100 if it is a byte shorter. */
    private static void readingsAreCut() {
        PhraseReader x = new PhraseReader();
        String[] words = {"a", "b", "ab", "ba", "aba", "bab"};
        for (String w : words) {
            Check.declare(x, w, 0, 0, 3);
        }
        Check.text(x, "ababababababababababababababababab".substring(0, 31));
        check.due("readings() of 31 bytes", x.readings(), 859100);
        check.due("write(98)", x.write('b'), 32);
        check.due("readings() of 32 bytes", x.readings(), 1000000);
        check.same("reading", Check.reading(x).substring(0, 6), "010101");
        x.set(0, 2, 2);
        check.due("readings() less than the greatest", x.readings() < 1000000 ? 1 : 0, 1);
    }

    private static void readingsFollowChanges() {
        PhraseReader x = new PhraseReader();
        Check.declare(x, "a", 0, 0, 1);
        Check.declare(x, "b", 0, 0, 1);
        Check.text(x, "b");
        check.due("readings()", x.readings(), 1);
        x.write('a');
        check.due("readings() after write", x.readings(), 1);
        check.due("next() after write", x.next(), 0);
        x.rule(0, 1, 1);
        check.due("readings() after rule", x.readings(), 0);
        x.undo();
        check.due("readings() after undo", x.readings(), 1);
        x.set(0, 0, 1);
        check.due("readings() after set", x.readings(), 0);
        x.set(0, 0, 0);
        x.keep(0);
        x.remove(0);
        check.due("fault() after remove", x.fault(), 1);
        x.back(0);
        check.due("fault() after back", x.fault(), Check.NONE);
        x.move(1, 0);
        check.due("occurrence(0, 0) after move", x.occurrence(0, 0), 0);
        x.setSeparator(33);
        check.due("fault() after setSeparator", x.fault(), 1);
        x.wipe();
        check.due("fault() after wipe", x.fault(), Check.NONE);
        x.write('a');
        x.write('b');
        x.declare(0, 0, 1);
        check.due("fault() after declare", x.fault(), Check.NONE);
    }

    private static void removedMembersSayNothing() {
        PhraseReader x = new PhraseReader();
        Check.declare(x, "b", 0, 0, 1);
        Check.declare(x, "a", 0, 2, 3);
        Check.text(x, "b");
        check.due("readings()", x.readings(), 0);
        check.due("next()", x.next(), 2);
        x.remove(1);
        check.due("readings() after remove", x.readings(), 1);
        check.due("fault() after remove", x.fault(), Check.NONE);
        check.due("next() after remove", x.next(), 0);
        check.due("orders(-1) after remove", x.orders(-1), 2);
        check.due("told(6) after remove", x.told(6), 0);
        check.due("told(7) after remove", x.told(7), 1);
        x.undo();
        check.due("readings() after undo", x.readings(), 0);
        check.due("told(6) after undo", x.told(6), 2);
    }

    private static void dueOccurrence(PhraseReader x, int k, int member, int start, int value) {
        check.due("occurrence(" + k + ", 0)", x.occurrence(k, 0), member);
        check.due("occurrence(" + k + ", 1)", x.occurrence(k, 1), start);
        check.due("occurrence(" + k + ", 2)", x.occurrence(k, 2), value);
    }

    private static void occurrence() {
        PhraseReader x = new PhraseReader();
        dueOccurrence(x, 0, Check.NONE, Check.NONE, Check.NONE);
        Check.declare(x, "num", 1, 0, 3);
        Check.declare(x, "c", 2, 0, 2);
        Check.declare(x, "on", 0, 0, 1);
        Check.text(x, "cAnum007oncZnum9");
        dueOccurrence(x, 0, 1, 0, 0);
        dueOccurrence(x, 1, 0, 2, 7);
        dueOccurrence(x, 2, 2, 8, 1);
        dueOccurrence(x, 3, 1, 10, 25);
        dueOccurrence(x, 4, 0, 12, 9);
        dueOccurrence(x, 5, Check.NONE, Check.NONE, Check.NONE);
        dueOccurrence(x, Integer.MAX_VALUE, Check.NONE, Check.NONE, Check.NONE);
        x.setSeparator(45);
        dueOccurrence(x, 0, Check.STATE, Check.STATE, Check.STATE);
        Check.text(x, "cA-num007-on-cZ-num9");
        dueOccurrence(x, 1, 0, 3, 7);
        dueOccurrence(x, 4, 0, 16, 9);
        PhraseReader y = new PhraseReader();
        StringBuilder text = new StringBuilder();
        for (char c = 'a'; c <= 'f'; c++) {
            Check.declare(y, String.valueOf(c), 1, 3, 3);
            text.append(c).append("12").append(c).append("3").append(c).append("045");
        }
        Check.text(y, text.toString());
        dueOccurrence(y, 17, 5, 50, 45);
    }

    private static void occurrenceOfTheFirstReading() {
        PhraseReader x = new PhraseReader();
        Check.declare(x, "aa", 0, 0, 3);
        Check.declare(x, "a", 0, 0, 3);
        Check.text(x, "aaaaa");
        check.same("reading of aaaaa", Check.reading(x), "001");
        check.due("readings() of aaaaa", x.readings(), 3 + 4);
        dueOccurrence(x, 2, 1, 4, 1);
        x.rule(1, 0, 1);
        check.same("reading with a before aa", Check.reading(x), "100");
        dueOccurrence(x, 2, 0, 3, 1);
        x.set(1, 1, 2);
        check.same("reading with a at least twice", Check.reading(x), "1110");
        x.move(1, 0);
        check.same("reading after move", Check.reading(x), "0001");
    }

    private static void numbers() {
        PhraseReader x = new PhraseReader();
        Check.declare(x, "n", 1, 0, 3);
        String[] texts = {"n0", "n00", "n000", "n7", "n07", "n007", "n70", "n070", "n999", "n100"};
        int[] dues = {0, 0, 0, 7, 7, 7, 70, 70, 999, 100};
        String[] forms = {"n0", "n0", "n0", "n7", "n7", "n7", "n70", "n70", "n999", "n100"};
        for (int i = 0; i < texts.length; i++) {
            Check.text(x, texts[i]);
            check.due("occurrence(0, 2) of " + texts[i], x.occurrence(0, 2), dues[i]);
            check.due("value(0, 0) of " + texts[i], x.value(0, 0), dues[i]);
            check.same("normal of " + texts[i], Check.normal(x), forms[i]);
        }
    }

    private static void value() {
        PhraseReader x = new PhraseReader();
        Check.declare(x, "num", 1, 0, 3);
        Check.declare(x, "c", 2, 0, 2);
        Check.declare(x, "on", 0, 0, 2);
        x.set(0, 3, 55);
        x.set(1, 3, 999);
        Check.text(x, "cBononcAnum3");
        check.due("value(0, 0)", x.value(0, 0), 3);
        check.due("value(0, 1)", x.value(0, 1), Check.NONE);
        check.due("value(1, 0)", x.value(1, 0), 1);
        check.due("value(1, 1)", x.value(1, 1), 0);
        check.due("value(1, 2)", x.value(1, 2), Check.NONE);
        check.due("value(2, 1)", x.value(2, 1), 1);
        check.due("value(2, 2)", x.value(2, 2), Check.NONE);
        check.due("value(2, greatest)", x.value(2, Integer.MAX_VALUE), Check.NONE);
        Check.text(x, "");
        check.due("value(0, 0): the default", x.value(0, 0), 55);
        check.due("value(0, 1): no default", x.value(0, 1), Check.NONE);
        check.due("value(1, 0): the default", x.value(1, 0), 999);
        check.due("value(2, 0): the default", x.value(2, 0), 0);
        x.set(2, 1, 1);
        check.due("value(0, 0) without a reading", x.value(0, 0), Check.STATE);
        check.due("value(0, 5) without a reading", x.value(0, 5), Check.STATE);
        check.due("value(3, 0)", x.value(3, 0), Check.BAD);
        check.due("value(0, -1)", x.value(0, -1), Check.BAD);
    }

    private static void dueNext(PhraseReader x, String text, int next) {
        Check.text(x, text);
        check.due("next() of <" + text + ">", x.next(), next);
    }

    private static void next() {
        PhraseReader x = new PhraseReader();
        dueNext(x, "", 0);
        dueNext(x, "a", Check.NONE);
        Check.declare(x, "a", 1, 0, 2);
        Check.declare(x, "b", 2, 1, 1);
        Check.declare(x, "cd", 0, 3, 3);
        dueNext(x, "", 7);
        dueNext(x, "a1", 7);
        dueNext(x, "a", Check.NONE);
        dueNext(x, "a1a2", 6);
        dueNext(x, "bX", 5);
        dueNext(x, "a1bXcdcdcda1", 0);
        dueNext(x, "a1bXcdcdcda", Check.NONE);
        x.rule(0, 1, 1);
        dueNext(x, "bX", 4);
        dueNext(x, "a1", 7);
        x.rule(1, 0, 1);
        dueNext(x, "a1", 5);
        x.setSeparator(33);
        dueNext(x, "", 7);
        dueNext(x, "a1", 5);
        dueNext(x, "a1!", Check.NONE);
        dueNext(x, "cd!cd!cd", 3);
        dueNext(x, "cdcd", Check.NONE);
        PhraseReader y = new PhraseReader();
        for (char c = 'a'; c <= 'f'; c++) {
            Check.declare(y, String.valueOf(c), 0, 0, 1);
        }
        dueNext(y, "", 63);
        dueNext(y, "f", 31);
        dueNext(y, "fa", 30);
    }

    private static void nextOfSeveralBeginnings() {
        PhraseReader x = new PhraseReader();
        Check.declare(x, "ab", 0, 0, 1);
        Check.declare(x, "a", 0, 0, 1);
        Check.declare(x, "b", 0, 0, 1);
        dueNext(x, "ab", 7);
        x.rule(0, 1, 1);
        dueNext(x, "ab", 6);
        x.set(0, 1, 1);
        check.due("readings() of ab", x.readings(), 1);
        dueNext(x, "a", 4);
    }

    private static void normal() {
        PhraseReader x = new PhraseReader();
        check.same("normal of nothing", Check.normal(x), "");
        Check.declare(x, "zz", 1, 0, 3);
        Check.declare(x, "y", 2, 0, 2);
        Check.declare(x, "xyw", 0, 0, 2);
        Check.text(x, "yBxywzz010yAzz002xywzz000");
        check.same("normal", Check.normal(x), "zz10zz2zz0yByAxywxyw");
        check.due("normal(0)", x.normal(0), 'z');
        check.due("normal(19)", x.normal(19), 'w');
        check.due("normal(20)", x.normal(20), Check.NONE);
        check.due("normal(60)", x.normal(60), Check.NONE);
        check.due("normal(greatest)", x.normal(Integer.MAX_VALUE), Check.NONE);
        x.setSeparator(33);
        check.due("normal(0) without a reading", x.normal(0), Check.STATE);
        check.due("normal(99) without a reading", x.normal(99), Check.STATE);
        Check.text(x, "yB!xyw!zz010!yA");
        check.same("normal with separators", Check.normal(x), "zz10!yB!yA!xyw");
        x.move(2, 0);
        check.same("normal after move", Check.normal(x), "xyw!zz10!yB!yA");
        Check.text(x, "yB");
        check.same("normal of one", Check.normal(x), "yB");
        Check.text(x, "");
        check.same("normal of the empty text", Check.normal(x), "");
        PhraseReader z = new PhraseReader();
        Check.declare(z, "a", 0, 0, 1);
        Check.declare(z, "b", 0, 0, 2);
        z.setSeparator(38);
        Check.text(z, "b&a&b");
        check.same("normal of words of one byte", Check.normal(z), "a&b&b");
        PhraseReader y = new PhraseReader();
        Check.declare(y, "zzz", 1, 0, 3);
        Check.declare(y, "xxx", 1, 0, 3);
        Check.declare(y, "yyy", 1, 0, 3);
        Check.declare(y, "w", 1, 0, 3);
        String text = "w123xxx456xxx789xxx100yyy101yyy102yyy103zzz104zzz105w999w888";
        Check.text(y, text);
        check.due("told(4)", y.told(4), 60);
        check.same("normal of 60 bytes", Check.normal(y),
                "zzz104zzz105xxx456xxx789xxx100yyy101yyy102yyy103w123w999w888");
        check.due("normal(59)", y.normal(59), '8');
        check.due("normal(60)", y.normal(60), Check.NONE);
    }

    private static void wrongArguments() {
        PhraseReader x = new PhraseReader();
        Check.declare(x, "a", 0, 0, 1);
        int least = Integer.MIN_VALUE, most = Integer.MAX_VALUE;
        for (String text : new String[] {"a", "b"}) {
            Check.text(x, text);
            int[][] occurrences = {{-1, 0}, {least, 0}, {0, -1}, {0, 3}, {0, least}, {0, most}, {-1, 3}, {9, 3}};
            for (int[] w : occurrences) {
                check.due("occurrence(" + w[0] + ", " + w[1] + ")", x.occurrence(w[0], w[1]), Check.BAD);
            }
            int[][] values = {{-1, 0}, {1, 0}, {6, 0}, {least, 0}, {most, 0}, {0, -1}, {0, least}, {1, -1}};
            for (int[] w : values) {
                check.due("value(" + w[0] + ", " + w[1] + ")", x.value(w[0], w[1]), Check.BAD);
            }
            check.due("normal(-1)", x.normal(-1), Check.BAD);
            check.due("normal(least)", x.normal(least), Check.BAD);
        }
        check.due("occurrence(9, 0) without a reading", x.occurrence(9, 0), Check.STATE);
        check.due("occurrence(greatest, 2) without a reading", x.occurrence(most, 2), Check.STATE);
        check.due("value(0, greatest) without a reading", x.value(0, most), Check.STATE);
        check.due("normal(greatest) without a reading", x.normal(most), Check.STATE);
    }
}
