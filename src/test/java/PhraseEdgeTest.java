/** Promises 14 to 18 at their edges, sentence by sentence of PHRASES. */
public final class PhraseEdgeTest {
    private static final Check check = new Check("PhraseEdgeTest");
    private static final int MOST = Integer.MAX_VALUE;

    public static void main(String[] args) {
        valuesOfTheThreeKinds();
        numbersOfOneToThreeDigits();
        bytesNextToDigitsAndCapitals();
        separatorsStandOnlyBetween();
        eachSeparator();
        timesFromLeastToMost();
        emptyTextIsAPhrase();
        emptyTextIsNoPhrase();
        rulesAboutAllOccurrences();
        rulesAreTakenOneByOne();
        firstReadingIsMeant();
        noneOneAndManyReadings();
        readingsBesideTheGreatest();
        lastOccurrence();
        eighteenOccurrences();
        lastValue();
        defaultOnlyIfAbsent();
        nextOfEmptyAndFullText();
        nextBesideTheGreatestTimes();
        normalOfNumbers();
        normalOfSixtyBytes();
        normalIsShorter();
        check.end();
    }

    private static PhraseReader with(String word, int kind, int least, int most) {
        PhraseReader x = new PhraseReader();
        Check.declare(x, word, kind, least, most);
        return x;
    }

    private static void dueReadings(PhraseReader x, String text, int readings) {
        Check.text(x, text);
        check.due("readings() of <" + text + ">", x.readings(), readings);
    }

    /** "The value of an occurrence is 1 for the kind 0, the number for the kind 1, and 0 to 25 for A to Z" */
    private static void valuesOfTheThreeKinds() {
        PhraseReader none = with("w", 0, 1, 1);
        Check.text(none, "w");
        check.due("occurrence(0, 2) of the kind 0", none.occurrence(0, 2), 1);
        check.due("value(0, 0) of the kind 0", none.value(0, 0), 1);
        for (int number = 0; number <= 999; number++) {
            PhraseReader x = with("w", 1, 1, 1);
            Check.text(x, "w" + number);
            check.due("value(0, 0) of w" + number, x.value(0, 0), number);
        }
        for (int letter = 0; letter < 26; letter++) {
            PhraseReader x = with("w", 2, 1, 1);
            Check.text(x, "w" + (char) ('A' + letter));
            check.due("occurrence(0, 2) of the letter " + letter, x.occurrence(0, 2), letter);
            check.due("value(0, 0) of the letter " + letter, x.value(0, 0), letter);
        }
    }

    /** "one to three digits, as many as possible, but at most three; zeros may stand before others" */
    private static void numbersOfOneToThreeDigits() {
        String[] texts = {"w", "w0", "w00", "w000", "w0000", "w1", "w01", "w001", "w0001", "w12", "w012", "w0012",
            "w999", "w0999", "w1000", "w9999"};
        int[] dues = {-1, 0, 0, 0, -1, 1, 1, 1, -1, 12, 12, -1, 999, -1, -1, -1};
        for (int i = 0; i < texts.length; i++) {
            PhraseReader x = with("w", 1, 0, 3);
            dueReadings(x, texts[i], dues[i] < 0 ? 0 : 1);
            check.due("occurrence(0, 2) of " + texts[i], x.occurrence(0, 2), dues[i] < 0 ? Check.STATE : dues[i]);
            check.due("value(0, 1) of " + texts[i], x.value(0, 1), dues[i] < 0 ? Check.STATE : Check.NONE);
        }
    }

    /** A number has the digits 0 to 9 alone, a value of the kind 2 the letters A to Z alone. */
    private static void bytesNextToDigitsAndCapitals() {
        for (char c = 32; c <= 126; c++) {
            PhraseReader number = with("w", 1, 1, 1);
            dueReadings(number, "w" + c, c >= '0' && c <= '9' ? 1 : 0);
            dueReadings(number, "w5" + c, c >= '0' && c <= '9' ? 1 : 0);
            PhraseReader capital = with("w", 2, 1, 1);
            dueReadings(capital, "w" + c, c >= 'A' && c <= 'Z' ? 1 : 0);
            dueReadings(capital, "wQ" + c, 0);
            PhraseReader none = with("w", 0, 1, 1);
            dueReadings(none, "w" + c, 0);
            dueReadings(none, c + "w", 0);
            dueReadings(none, "" + c, c == 'w' ? 1 : 0);
        }
    }

    /** "with the separator between each two neighbors (directly one behind the other if .. 0)" */
    private static void separatorsStandOnlyBetween() {
        String[] separated = {"a,b", ",a,b", "a,b,", "a,,b", "ab", "a-b", "a, b", "a", ",", ",,"};
        int[] dues = {1, 0, 0, 0, 0, 0, 0, 1, 0, 0};
        for (int i = 0; i < separated.length; i++) {
            PhraseReader x = States.letters(2, 0, 2);
            x.setSeparator(44);
            dueReadings(x, separated[i], dues[i]);
        }
        PhraseReader x = States.letters(2, 0, 2);
        dueReadings(x, "ab", 1);
        dueReadings(x, "a,b", 0);
        dueReadings(x, "a b", 0);
        dueReadings(x, "a0b", 0);
    }

    private static void eachSeparator() {
        for (int code = 33; code <= 47; code++) {
            for (int other = 32; other <= 48; other++) {
                PhraseReader x = with("n", 1, 0, 2);
                x.setSeparator(code);
                dueReadings(x, "n1" + (char) other + "n2", other == code ? 1 : 0);
                check.due("occurrence(1, 1)", x.occurrence(1, 1), other == code ? 3 : Check.STATE);
                check.due("normal(2)", x.normal(2), other == code ? code : Check.STATE);
            }
        }
    }

    /** "each member occurs at least the least and at most the greatest number of times" */
    private static void timesFromLeastToMost() {
        for (int most = 1; most <= 3; most++) {
            for (int least = 0; least <= most; least++) {
                for (int times = 0; times <= 4; times++) {
                    dueTimes(least, most, times, 0);
                    dueTimes(least, most, times, 45);
                }
            }
        }
    }

    private static void dueTimes(int least, int most, int times, int separator) {
        PhraseReader x = States.letters(1, least, most);
        x.setSeparator(separator);
        String between = separator == 0 ? "" : "-";
        Check.text(x, times == 0 ? "" : "a" + (between + "a").repeat(times - 1));
        String of = " of " + least + " to " + most + ", " + times + " times";
        boolean fits = times >= least && times <= most;
        int wrongAt = most + (separator == 0 ? 0 : most - 1);
        check.due("readings()" + of, x.readings(), fits ? 1 : 0);
        check.due("fault()" + of, x.fault(), fits ? Check.NONE : times < least ? x.told(4) : wrongAt);
        check.due("next()" + of, x.next(), times > most ? Check.NONE : times < most ? 1 : 0);
        check.due("rank()" + of, x.rank(), fits ? times - least : Check.STATE);
        check.due("orders(times)" + of, x.orders(times), fits ? 1 : 0);
        check.due("orders(-1)" + of, x.orders(-1), most - least + 1);
    }

    /** "An empty text is a phrase if no member has to occur." */
    private static void emptyTextIsAPhrase() {
        for (int members = 0; members <= 6; members++) {
            PhraseReader x = States.letters(members, 0, 3);
            x.setSeparator(members % 2 == 0 ? 0 : 33);
            check.due("fault()", x.fault(), Check.NONE);
            check.due("readings()", x.readings(), 1);
            for (int what = 0; what <= 2; what++) {
                check.due("occurrence(0, " + what + ")", x.occurrence(0, what), Check.NONE);
            }
            check.due("normal(0)", x.normal(0), Check.NONE);
            check.due("rank()", x.rank(), 0);
            check.due("next()", x.next(), (1 << members) - 1);
            for (int m = 0; m < members; m++) {
                check.due("value(" + m + ", 0)", x.value(m, 0), 0);
                check.due("value(" + m + ", 1)", x.value(m, 1), Check.NONE);
            }
        }
    }

    /** One member that has to occur is enough, whichever it is. */
    private static void emptyTextIsNoPhrase() {
        for (int m = 0; m < 6; m++) {
            PhraseReader x = States.letters(6, 0, 3);
            x.set(m, 1, 1);
            check.due("fault()", x.fault(), 0);
            check.due("readings()", x.readings(), 0);
            check.due("occurrence(0, 0)", x.occurrence(0, 0), Check.STATE);
            check.due("value(0, 0)", x.value(0, 0), Check.STATE);
            check.due("normal(0)", x.normal(0), Check.STATE);
            check.due("rank()", x.rank(), Check.STATE);
            check.due("next(): it is a beginning even so", x.next(), 63);
        }
    }

    /** "if a rule says that a comes before b, no occurrence of a stands behind one of b" */
    private static void rulesAboutAllOccurrences() {
        String[] texts = {"", "a", "b", "ab", "ba", "aab", "aba", "baa", "abb", "bab", "bba", "aabb", "acb", "bca",
            "cab", "abc", "acbca"};
        int[] dues = {1, 1, 1, 1, 0, 1, 0, 0, 1, 0, 0, 1, 1, 0, 1, 1, 0};
        for (int i = 0; i < texts.length; i++) {
            PhraseReader x = States.letters(3, 0, 2);
            x.rule(0, 1, 1);
            dueReadings(x, texts[i], dues[i]);
            x.rule(0, 1, 0);
            dueReadings(x, texts[i], 1);
            x.rule(1, 0, 1);
            x.rule(0, 1, 1);
            boolean both = texts[i].indexOf('a') >= 0 && texts[i].indexOf('b') >= 0;
            dueReadings(x, texts[i], both ? 0 : 1);
        }
    }

    /** "by a rule about both (not by way of others)": a before b and b before c don't make a before c. */
    private static void rulesAreTakenOneByOne() {
        String[] texts = {"ca", "c", "abc", "ac", "cab", "cb", "ba", "acb", "bca"};
        int[] faults = {Check.NONE, Check.NONE, Check.NONE, Check.NONE, 2, 1, 1, 2, 2};
        int[] nexts = {0, 1, 0, 0, Check.NONE, Check.NONE, Check.NONE, Check.NONE, Check.NONE};
        for (int i = 0; i < texts.length; i++) {
            PhraseReader x = States.letters(3, 0, 1);
            x.rule(0, 1, 1);
            x.rule(1, 2, 1);
            Check.text(x, texts[i]);
            check.due("fault() of <" + texts[i] + ">", x.fault(), faults[i]);
            check.due("next() of <" + texts[i] + ">", x.next(), nexts[i]);
            check.due("member(0, 8)", x.member(0, 8), 2);
            check.due("member(1, 8)", x.member(1, 8), 4);
            check.due("member(2, 8)", x.member(2, 8), 0);
            check.due("told(2)", x.told(2), 2);
        }
    }

    /** "ordered by their lists of members, lexicographically. The first reading is meant" */
    private static void firstReadingIsMeant() {
        PhraseReader x = new PhraseReader();
        for (String w : new String[] {"a", "aa", "ab", "b"}) {
            Check.declare(x, w, 0, 0, 2);
        }
        // 0023, 0133, 1033, 123
        Check.text(x, "aaabb");
        check.due("readings()", x.readings(), 4);
        check.same("the first reading", Check.reading(x), "0023");
        check.due("value(1, 0): a default", x.value(1, 0), 0);
        check.due("normal(1)", x.normal(1), 'a');
        x.set(0, 2, 1);
        check.same("with a once at most", Check.reading(x), "0133");
        check.due("value(1, 0)", x.value(1, 0), 1);
        x.rule(1, 0, 1);
        check.same("with aa before a", Check.reading(x), "1033");
        x.set(3, 2, 1);
        check.same("with b once at most", Check.reading(x), "123");
        check.due("readings()", x.readings(), 1);
        x.set(3, 1, 1);
        x.move(3, 0);
        check.same("with b as the first member", Check.reading(x), "230");
        x.set(0, 0, 1);
        check.same("with none", Check.reading(x), "");
        check.due("readings()", x.readings(), 0);
    }

    /** At most three a and at most three aa; a text that is too long has no reading. */
    private static void noneOneAndManyReadings() {
        int[] dues = {1, 1, 2, 3, 4, 7, 7, 14, 10, 20, 0, 0};
        for (int bytes = 0; bytes < dues.length; bytes++) {
            PhraseReader x = new PhraseReader();
            Check.declare(x, "a", 0, 0, 3);
            Check.declare(x, "aa", 0, 0, 3);
            dueReadings(x, "a".repeat(bytes), dues[bytes]);
        }
    }

    /** "1000000 if there are more": 997500 readings, 1154300, and 1881600. */
    private static void readingsBesideTheGreatest() {
        PhraseReader x = new PhraseReader();
        for (String w : new String[] {"a", "b", "ba", "bab", "aba", "ab"}) {
            Check.declare(x, w, 0, 0, 3);
        }
        x.set(5, 1, 2);
        dueReadings(x, "ab".repeat(16), 997500);
        x.set(5, 1, 0);
        dueReadings(x, "ab".repeat(16), 1000000);
        dueReadings(x, "ab".repeat(18), 1000000);
        check.same("the first of them", Check.reading(x), "010101422234343555");
        dueReadings(x, "ab".repeat(18) + "c", 0);
    }

    /** "NONE if it has not so many occurrences": the last index, the one behind it, the greatest int. */
    private static void lastOccurrence() {
        for (int count = 0; count <= 6; count++) {
            PhraseReader x = States.letters(6, 0, 1);
            Check.text(x, "fedcba".substring(0, count));
            for (int what = 0; what <= 2; what++) {
                int[] dues = {6 - count, count - 1, 1};
                if (count > 0) {
                    check.due("the last occurrence, " + what, x.occurrence(count - 1, what), dues[what]);
                    check.due("the first occurrence, " + what, x.occurrence(0, what), new int[] {5, 0, 1}[what]);
                }
                check.due("the occurrence behind it, " + what, x.occurrence(count, what), Check.NONE);
                check.due("occurrence(greatest, " + what + ")", x.occurrence(MOST, what), Check.NONE);
            }
        }
    }

    private static void eighteenOccurrences() {
        PhraseReader x = new PhraseReader();
        for (char c = 'a'; c <= 'f'; c++) {
            Check.declare(x, c + "x", 0, 3, 3);
        }
        x.setSeparator(43);
        String six = "ax+bx+cx+dx+ex+fx";
        Check.text(x, six + "+" + six + "+" + six);
        check.due("told(4)", x.told(4), 53);
        check.due("readings()", x.readings(), 1);
        check.due("next(): none can follow", x.next(), 0);
        for (int k = 0; k < 18; k++) {
            check.due("occurrence(" + k + ", 0)", x.occurrence(k, 0), k % 6);
            check.due("occurrence(" + k + ", 1)", x.occurrence(k, 1), 3 * k);
        }
        check.due("occurrence(18, 0)", x.occurrence(18, 0), Check.NONE);
        check.due("occurrence(18, 1)", x.occurrence(18, 1), Check.NONE);
        check.due("occurrence(18, 2)", x.occurrence(18, 2), Check.NONE);
        x.write('+');
        check.due("fault() with a separator behind all", x.fault(), 53);
    }

    /** "NONE if it has not so many values": the last index, the one behind it, the greatest int. */
    private static void lastValue() {
        for (int times = 1; times <= 3; times++) {
            PhraseReader x = States.letters(2, 0, 3);
            x.set(1, 0, 1);
            x.set(1, 3, 77);
            StringBuilder text = new StringBuilder("a");
            for (int k = 0; k < times; k++) {
                text.append("b").append(100 * k);
            }
            Check.text(x, text.toString());
            for (int k = 0; k < times; k++) {
                check.due("value(1, " + k + ") of " + times, x.value(1, k), 100 * k);
            }
            check.due("value(1, times) of " + times, x.value(1, times), Check.NONE);
            check.due("value(1, 3) of " + times, x.value(1, 3), Check.NONE);
            check.due("value(1, greatest) of " + times, x.value(1, MOST), Check.NONE);
            check.due("value(0, 0)", x.value(0, 0), 1);
            check.due("value(0, 1)", x.value(0, 1), Check.NONE);
        }
    }

    /** "the default of the member if it does not occur and k is 0" */
    private static void defaultOnlyIfAbsent() {
        for (int kind = 0; kind <= 2; kind++) {
            for (int standard : new int[] {0, 1, 999}) {
                PhraseReader x = with("w", kind, 0, 2);
                x.set(0, 3, standard);
                check.due("value(0, 0): the default", x.value(0, 0), standard);
                check.due("value(0, 1): none", x.value(0, 1), Check.NONE);
                check.due("value(0, greatest): none", x.value(0, MOST), Check.NONE);
                check.due("occurrence(0, 2): none", x.occurrence(0, 2), Check.NONE);
                Check.text(x, kind == 0 ? "w" : kind == 1 ? "w0" : "wA");
                check.due("value(0, 0): no default, of the kind " + kind, x.value(0, 0), kind == 0 ? 1 : 0);
                check.due("value(0, 1): no default", x.value(0, 1), Check.NONE);
            }
        }
    }

    /** "behind a separator, if the text is not empty and there is one"; "NONE if .. not a beginning" */
    private static void nextOfEmptyAndFullText() {
        PhraseReader x = States.six();
        check.due("next() of the empty text", x.next(), 63);
        Check.text(x, ",");
        check.due("next() of a separator alone", x.next(), Check.NONE);
        Check.text(x, "b");
        check.due("next() of b", x.next(), 2 + 4 + 16 + 32);
        Check.text(x, "b,");
        check.due("next() behind a separator", x.next(), Check.NONE);
        PhraseReader y = States.six(States.SIX_FULL);
        check.due("next() of a full text with all of them", y.next(), 0);
        PhraseReader z = States.letters(3, 0, 3);
        z.setSeparator(44);
        Check.text(z, "a,".repeat(30));
        check.due("next() of a full text that is no beginning", z.next(), Check.NONE);
        check.due("next() of a full text that could go on", fullBeginning().next(), 16 + 32);
    }

    /** A full text with four members as often as they may occur, and two that may come again. */
    private static PhraseReader fullBeginning() {
        PhraseReader x = new PhraseReader();
        Check.declare(x, "xya", 1, 0, 3);
        Check.declare(x, "xyb", 1, 0, 3);
        Check.declare(x, "xyc", 1, 0, 3);
        Check.declare(x, "p", 0, 0, 3);
        Check.declare(x, "q", 0, 0, 3);
        Check.declare(x, "r", 0, 0, 3);
        Check.text(x, "xya123".repeat(3) + "xyb000".repeat(3) + "xyc999".repeat(3) + "pppqqr");
        check.due("told(4)", x.told(4), 60);
        return x;
    }

    /** A member that has occurred the greatest number of times can't follow, and no other one is kept back. */
    private static void nextBesideTheGreatestTimes() {
        for (int m = 0; m < 6; m++) {
            PhraseReader x = States.letters(6, 0, 2);
            x.write('a' + m);
            check.due("next() after one", x.next(), 63);
            x.write('a' + m);
            check.due("next() after two", x.next(), 63 - (1 << m));
            x.write('a' + m);
            check.due("next() after three", x.next(), Check.NONE);
        }
        for (int m = 0; m < 6; m++) {
            PhraseReader x = States.letters(6, 0, 1);
            int before = (m + 1) % 6;
            x.rule(before, m, 1);
            x.write('a' + m);
            check.due("next() with a rule", x.next(), 63 - (1 << m) - (1 << before));
        }
    }

    /** "numbers without leading zeros" */
    private static void normalOfNumbers() {
        for (int number = 0; number <= 999; number++) {
            String digits = String.valueOf(number);
            for (int zeros = 0; zeros + digits.length() <= 3; zeros++) {
                PhraseReader x = with("w", 1, 0, 3);
                Check.text(x, "w" + "0".repeat(zeros) + digits);
                check.same("normal of " + number + " with " + zeros + " zeros", Check.normal(x), "w" + digits);
            }
        }
        for (char c = 'A'; c <= 'Z'; c++) {
            PhraseReader x = with("w", 2, 0, 3);
            Check.text(x, "w" + c);
            check.same("normal of w" + c, Check.normal(x), "w" + c);
        }
    }

    /** "NONE if the normal form has not so many": the last index, the one behind it, the greatest int. */
    private static void normalOfSixtyBytes() {
        PhraseReader x = States.six(States.SIX_FULL);
        check.due("told(4)", x.told(4), 60);
        check.due("normal(0)", x.normal(0), 'a');
        check.due("normal(59)", x.normal(59), 'A');
        check.due("normal(60)", x.normal(60), Check.NONE);
        check.due("normal(61)", x.normal(61), Check.NONE);
        check.due("normal(greatest)", x.normal(MOST), Check.NONE);
        check.same("normal form", Check.normal(x),
                "a,a,a,ab12,ab123,abcQ,abcQ,abcQ,b,cd123,cd123,cd123,zA,zA,zA");
    }

    private static void normalIsShorter() {
        PhraseReader x = States.six("cd001,b,cd010,cd000");
        check.same("normal form", Check.normal(x), "b,cd1,cd10,cd0");
        check.due("normal(13)", x.normal(13), '0');
        check.due("normal(14)", x.normal(14), Check.NONE);
        check.due("normal(18)", x.normal(18), Check.NONE);
        PhraseReader y = States.six("b");
        check.due("normal(0) of one byte", y.normal(0), 'b');
        check.due("normal(1) of one byte", y.normal(1), Check.NONE);
    }
}
