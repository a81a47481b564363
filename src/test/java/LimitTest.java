/** The limits of what a reader holds: 6 members, words of 1 to 3 letters, a text of 60 bytes. */
public final class LimitTest {
    private static final Check check = new Check("LimitTest");

    public static void main(String[] args) {
        sixMembers();
        aSeventhAfterRemoving();
        numbersAfterRemoving();
        removingTheFirstAndTheLast();
        noMembers();
        wordsOfOneToThreeLetters();
        lettersFromAToZ();
        aWordOfAnotherMember();
        sixtyBytes();
        sixtyBytesAreNoWord();
        bytesFrom32To126();
        writingAfterFull();
        defaults();
        separators();
        rulesBetweenAll();
        movingToTheEnds();
        clashesOfSix();
        timesOfSix();
        check.end();
    }

    /** "There are at most 6 members, numbered from 0 in the order in which they were declared" */
    private static void sixMembers() {
        PhraseReader x = new PhraseReader();
        for (int m = 0; m < 6; m++) {
            check.due("declare, member " + m, Check.declare(x, "m" + (char) ('a' + m), m % 3, 0, 1), m);
            check.due("told(0)", x.told(0), m + 1);
        }
        check.due("a seventh", Check.declare(x, "q", 0, 0, 1), Check.FULL);
        check.due("told(0)", x.told(0), 6);
        for (int m = 0; m < 6; m++) {
            check.due("member(" + m + ", 6)", x.member(m, 6), 'a' + m);
            check.due("member(" + m + ", 0)", x.member(m, 0), m % 3);
        }
        check.due("member(6, 6)", x.member(6, 6), Check.BAD);
    }

    private static void aSeventhAfterRemoving() {
        PhraseReader x = States.six("q");
        check.due("declare", x.declare(0, 0, 1), Check.FULL);
        check.due("remove(5)", x.remove(5), 5);
        check.due("declare after remove", x.declare(0, 0, 1), 5);
        Check.text(x, "qq");
        check.due("declare once more", x.declare(0, 0, 1), Check.FULL);
        check.due("undo()", x.undo(), 7);
        check.due("declare after undo", x.declare(0, 0, 1), 5);
        check.due("member(5, 6)", x.member(5, 6), 'q');
    }

    /** "if one is removed, the numbers of later ones decrease by 1" */
    private static void numbersAfterRemoving() {
        for (int removed = 0; removed < 6; removed++) {
            PhraseReader x = States.letters(6, 0, 1);
            check.due("remove(" + removed + ")", x.remove(removed), 5);
            for (int m = 0; m < 5; m++) {
                int letter = 'a' + (m < removed ? m : m + 1);
                check.due("member(" + m + ", 5) after remove(" + removed + ")", x.member(m, 5), letter);
            }
            check.due("member(5, 5) after remove(" + removed + ")", x.member(5, 5), Check.BAD);
        }
    }

    /** "Removes a member, and the rules about it": all 30 rules, of which 20 are left each time. */
    private static void removingTheFirstAndTheLast() {
        for (int removed = 0; removed < 6; removed++) {
            PhraseReader x = allRules();
            x.remove(removed);
            check.due("told(2) after remove(" + removed + ")", x.told(2), 20);
            for (int m = 0; m < 5; m++) {
                check.due("member(" + m + ", 8) after remove(" + removed + ")", x.member(m, 8), 31 - (1 << m));
            }
            Check.declare(x, "q", 0, 0, 1);
            check.due("member(5, 8) of the new one", x.member(5, 8), 0);
            check.due("member(0, 8) of an old one", x.member(0, 8), 30);
        }
    }

    private static PhraseReader allRules() {
        PhraseReader x = States.letters(6, 0, 1);
        for (int a = 0; a < 6; a++) {
            for (int b = 0; b < 6; b++) {
                x.rule(a, b, 1);
            }
        }
        return x;
    }

    /** With no members, all that is told is 0, and only the empty text is a phrase. */
    private static void noMembers() {
        PhraseReader x = States.one();
        check.due("remove(0)", x.remove(0), 0);
        for (int what : new int[] {0, 1, 2, 3, 4, 6, 7}) {
            check.due("told(" + what + ")", x.told(what), 0);
        }
        check.due("fault()", x.fault(), Check.NONE);
        check.due("readings()", x.readings(), 1);
        check.due("next()", x.next(), 0);
        check.due("occurrence(0, 0)", x.occurrence(0, 0), Check.NONE);
        check.due("value(0, 0)", x.value(0, 0), Check.BAD);
        check.due("normal(0)", x.normal(0), Check.NONE);
        check.due("orders(-1)", x.orders(-1), 1);
        check.due("order(0, 0)", x.order(0, 0), Check.NONE);
        check.due("rank()", x.rank(), 0);
        check.due("keep(0)", x.keep(0), 0);
        x.write('a');
        check.due("fault() of a", x.fault(), 0);
        check.due("readings() of a", x.readings(), 0);
        check.due("next() of a", x.next(), Check.NONE);
        x.setSeparator(44);
        Check.text(x, ",");
        check.due("fault() of a separator", x.fault(), 0);
        check.due("next() of a separator", x.next(), Check.NONE);
    }

    /** "a word of 1 to 3 small letters" */
    private static void wordsOfOneToThreeLetters() {
        String[] words = {"", "w", "wo", "wor", "word", "words"};
        for (int length = 0; length < words.length; length++) {
            PhraseReader x = new PhraseReader();
            boolean fits = length >= 1 && length <= 3;
            check.due("declare of <" + words[length] + ">", Check.declare(x, words[length], 0, 0, 1),
                    fits ? 0 : Check.STATE);
            check.due("told(5) then", x.told(5), fits ? 1 : 0);
            check.due("member(0, 4) then", x.member(0, 4), fits ? length : Check.BAD);
            for (int i = 0; i < 3 && fits; i++) {
                int due = i < length ? words[length].charAt(i) : Check.NONE;
                check.due("member(0, " + (5 + i) + ") then", x.member(0, 5 + i), due);
            }
        }
    }

    /** "small letters (a to z)": each byte at each place of a word. */
    private static void lettersFromAToZ() {
        for (char c = 32; c <= 126; c++) {
            int due = c >= 'a' && c <= 'z' ? 0 : Check.STATE;
            for (String word : new String[] {"" + c, c + "m", "m" + c, c + "mm", "m" + c + "m", "mm" + c}) {
                check.due("declare of <" + word + ">", Check.declare(new PhraseReader(), word, 0, 0, 1), due);
            }
        }
    }

    /** "which no other member has": the same word, not one that is its beginning or longer. */
    private static void aWordOfAnotherMember() {
        String[] words = {"a", "z", "aa", "az", "za", "aaa", "zzz", "aaz"};
        for (String first : words) {
            for (String second : words) {
                PhraseReader x = new PhraseReader();
                Check.declare(x, first, 0, 0, 1);
                check.due("declare of " + second + " behind " + first, Check.declare(x, second, 0, 0, 1),
                        first.equals(second) ? Check.STATE : 1);
            }
        }
        for (int m = 0; m < 6; m++) {
            PhraseReader x = States.letters(6, 0, 1);
            x.remove(m);
            for (int other = 0; other < 6; other++) {
                int due = other == m ? 5 : Check.STATE;
                check.due("the word " + other + " after remove(" + m + ")",
                        Check.declare(x, String.valueOf((char) ('a' + other)), 0, 0, 1), due);
                if (other == m) {
                    x.undo();
                }
            }
        }
    }

    /** "The text has at most 60 bytes" */
    private static void sixtyBytes() {
        PhraseReader x = new PhraseReader();
        for (int length = 1; length <= 60; length++) {
            check.due("write, byte " + length, x.write(length % 2 == 0 ? 32 : 126), length);
            check.due("told(4)", x.told(4), length);
        }
        for (int i = 0; i < 3; i++) {
            check.due("write in a full text", x.write(97), Check.FULL);
            check.due("told(4) of a full text", x.told(4), 60);
        }
        check.due("wipe() of a full text", x.wipe(), 60);
        check.due("told(4) after wipe", x.told(4), 0);
        check.due("wipe() of an empty text", x.wipe(), 0);
        check.due("write after wipe", x.write(97), 1);
    }

    private static void sixtyBytesAreNoWord() {
        PhraseReader x = new PhraseReader();
        Check.text(x, "a".repeat(60));
        check.due("declare of a full text", x.declare(0, 0, 1), Check.STATE);
        check.due("told(0)", x.told(0), 0);
    }

    /** "bytes with codes from 32 to 126": a text may hold each of them. */
    private static void bytesFrom32To126() {
        PhraseReader x = States.one();
        for (int code = 31; code <= 127; code++) {
            x.wipe();
            check.due("write(" + code + ")", x.write(code), code >= 32 && code <= 126 ? 1 : Check.BAD);
            check.due("fault() of the byte " + code, x.fault(), code == 'a' || x.told(4) == 0 ? Check.NONE : 0);
        }
    }

    private static void writingAfterFull() {
        PhraseReader x = States.six(States.SIX_FULL);
        check.due("readings() of a full text", x.readings(), 1);
        check.due("write", x.write('9'), Check.FULL);
        check.due("readings() behind the refused byte", x.readings(), 1);
        check.due("occurrence(14, 2)", x.occurrence(14, 2), 0);
        check.due("occurrence(15, 2)", x.occurrence(15, 2), Check.NONE);
    }

    /** "a default, 0 to 999", which is 0 at first. */
    private static void defaults() {
        PhraseReader x = States.one();
        check.due("member(0, 3)", x.member(0, 3), 0);
        int was = 0;
        for (int v : new int[] {0, 1, 998, 999, 255, 256, 512, 0}) {
            check.due("set(0, 3, " + v + ")", x.set(0, 3, v), was);
            check.due("member(0, 3)", x.member(0, 3), v);
            check.due("value(0, 0)", x.value(0, 0), v);
            was = v;
        }
        x.set(0, 3, 999);
        x.remove(0);
        check.due("declare after remove", Check.declare(x, "a", 1, 0, 1), 0);
        check.due("member(0, 3) of a new member", x.member(0, 3), 0);
    }

    /** "The separator is 0 (there is none; at first) or a byte from 33 to 47" */
    private static void separators() {
        PhraseReader x = new PhraseReader();
        check.due("told(1) at first", x.told(1), 0);
        int was = 0;
        for (int code : new int[] {33, 34, 46, 47, 0, 0, 47}) {
            check.due("setSeparator(" + code + ")", x.setSeparator(code), was);
            check.due("told(1)", x.told(1), code);
            was = code;
        }
    }

    /** Each of the 30 rules, added twice and removed twice. */
    private static void rulesBetweenAll() {
        for (int a = 0; a < 6; a++) {
            for (int b = 0; b < 6; b++) {
                PhraseReader x = States.letters(6, 0, 1);
                int same = a == b ? Check.BAD : 0;
                String of = a + ", " + b;
                check.due("rule(" + of + ", 0)", x.rule(a, b, 0), same);
                check.due("rule(" + of + ", 1)", x.rule(a, b, 1), same);
                check.due("told(2)", x.told(2), a == b ? 0 : 1);
                check.due("member(" + a + ", 8)", x.member(a, 8), a == b ? 0 : 1 << b);
                check.due("rule(" + of + ", 1) again", x.rule(a, b, 1), a == b ? Check.BAD : 1);
                check.due("rule(" + of + ", 0) of it", x.rule(a, b, 0), a == b ? Check.BAD : 1);
                check.due("told(2) without it", x.told(2), 0);
                check.due("rule(" + of + ", 0) again", x.rule(a, b, 0), same);
            }
        }
        check.due("told(2) of all", allRules().told(2), 30);
        check.due("member(0, 8) of all", allRules().member(0, 8), 62);
        check.due("member(5, 8) of all", allRules().member(5, 8), 31);
    }

    /** "the order of the others stays, and rules follow their members": from each place to each. */
    private static void movingToTheEnds() {
        for (int from = 0; from < 6; from++) {
            for (int to = 0; to < 6; to++) {
                PhraseReader x = States.letters(6, 0, 1);
                x.rule(0, 5, 1);
                x.rule(5, 1, 1);
                x.rule(2, 3, 1);
                x.rule(4, 2, 1);
                StringBuilder words = new StringBuilder("abcdef");
                char moved = words.charAt(from);
                words.deleteCharAt(from).insert(to, moved);
                check.due("move(" + from + ", " + to + ")", x.move(from, to), to);
                check.same("move(" + from + ", " + to + ")", rules(x), rules(words.toString(), "af fb cd ec"));
            }
        }
    }

    private static String rules(PhraseReader x) {
        StringBuilder all = new StringBuilder();
        for (int m = 0; m < x.told(0); m++) {
            all.append((char) x.member(m, 5)).append(x.member(m, 8)).append(' ');
        }
        return all.toString();
    }

    private static String rules(String words, String pairs) {
        StringBuilder all = new StringBuilder();
        for (char word : words.toCharArray()) {
            int before = 0;
            for (String pair : pairs.split(" ")) {
                before |= pair.charAt(0) == word ? 1 << words.indexOf(pair.charAt(1)) : 0;
            }
            all.append(word).append(before).append(' ');
        }
        return all.toString();
    }

    /** "pairs of members that clash (each two members once)" */
    private static void clashesOfSix() {
        PhraseReader x = new PhraseReader();
        String[] words = {"zzz", "zz", "z", "zza", "za", "az"};
        int[] pairs = {0, 1, 3, 5, 6, 6};
        for (int m = 0; m < 6; m++) {
            Check.declare(x, words[m], 0, 0, 1);
            check.due("told(3) with " + words[m], x.told(3), pairs[m]);
        }
        int[] sets = {6, 1 + 4 + 8, 1 + 2 + 8 + 16, 6, 4, 0};
        for (int m = 0; m < 6; m++) {
            check.due("member(" + m + ", 9)", x.member(m, 9), sets[m]);
        }
        check.due("told(3) of none", new PhraseReader().told(3), 0);
        check.due("told(3) of one", States.one().told(3), 0);
        check.due("member(0, 9) of one", States.one().member(0, 9), 0);
    }

    /** "6 the least number of occurrences of a phrase, 7 the greatest one": 0 and 18 at the ends. */
    private static void timesOfSix() {
        int[][] times = {{0, 1}, {0, 3}, {1, 1}, {1, 3}, {3, 3}};
        for (int[] t : times) {
            for (int members = 0; members <= 6; members++) {
                PhraseReader x = States.letters(members, t[0], t[1]);
                check.due("told(6) of " + members, x.told(6), members * t[0]);
                check.due("told(7) of " + members, x.told(7), members * t[1]);
            }
        }
    }
}
