/** Promises 4 to 10: declare, remove, set, move, setSeparator, rule, undo. */
public final class DeclarationTest {
    private static final Check check = new Check("DeclarationTest");

    public static void main(String[] args) {
        declareTakesTheText();
        declareRefuses();
        declareErrorsInTheirOrder();
        remove();
        removeRenumbersRules();
        set();
        setRefuses();
        move();
        moveTakesRulesAlong();
        setSeparator();
        rule();
        undo();
        undoKeepsEightStates();
        failedCallsChangeNothing();
        check.end();
    }

    private static void declareTakesTheText() {
        PhraseReader x = new PhraseReader();
        Check.text(x, "az");
        check.due("declare(2, 3, 3)", x.declare(2, 3, 3), 0);
        check.due("told(4): the text stays", x.told(4), 2);
        x.write('q');
        check.due("declare(1, 0, 1)", x.declare(1, 0, 1), 1);
        x.wipe();
        x.write('q');
        check.due("declare(0, 1, 3)", x.declare(0, 1, 3), 2);
        check.same("declare", Check.declared(x),
                "3 members, separator 0; az 2 3 3 0 before 0; azq 1 0 1 0 before 0; q 0 1 3 0 before 0");
        check.due("told(5): each is a change", x.told(5), 3);
        x.set(2, 3, 5);
        x.rule(2, 0, 1);
        x.remove(2);
        check.due("a word may come again", x.declare(0, 0, 1), 2);
        check.due("its default is 0 again", x.member(2, 3), 0);
        check.due("it has no rules", x.member(2, 8), 0);
    }

    private static void declareRefuses() {
        PhraseReader x = new PhraseReader();
        x.write('a');
        int[][] wrong = {{-1, 0, 1}, {3, 0, 1}, {0, -1, 1}, {0, 4, 3}, {0, 0, 0}, {0, 0, 4}, {0, 4, 4}, {0, 2, 1},
            {0, 3, 2}, {Integer.MIN_VALUE, 0, 1}, {Integer.MAX_VALUE, 0, 1}, {0, Integer.MIN_VALUE, 1},
            {0, 0, Integer.MAX_VALUE}, {0, 0, Integer.MIN_VALUE}, {0, Integer.MAX_VALUE, Integer.MAX_VALUE}};
        for (int[] w : wrong) {
            check.due("declare(" + w[0] + ", " + w[1] + ", " + w[2] + ")", x.declare(w[0], w[1], w[2]), Check.BAD);
        }
        String[] noWords = {"", "abcd", "A", "1", "a1", "`", "{", "a ", " a", "aB", "abC"};
        for (String w : noWords) {
            Check.text(x, w);
            check.due("declare(0, 0, 1) of <" + w + ">", x.declare(0, 0, 1), Check.STATE);
        }
        check.due("told(0)", x.told(0), 0);
        check.due("told(5)", x.told(5), 0);
        check.due("a to z", Check.declare(x, "az", 0, 0, 1), 0);
        check.due("the same word", Check.declare(x, "az", 1, 0, 2), Check.STATE);
        check.due("its beginning", Check.declare(x, "a", 0, 0, 1), 1);
        check.due("its end", Check.declare(x, "z", 0, 0, 1), 2);
        check.due("a longer word", Check.declare(x, "azz", 0, 0, 1), 3);
        check.due("another word of these letters", Check.declare(x, "za", 0, 0, 1), 4);
        check.due("once more", Check.declare(x, "zzz", 0, 0, 1), 5);
        check.due("a seventh", Check.declare(x, "b", 0, 0, 1), Check.FULL);
        check.due("told(0)", x.told(0), 6);
    }

    private static void declareErrorsInTheirOrder() {
        PhraseReader x = new PhraseReader();
        check.due("BAD before STATE", x.declare(3, 0, 1), Check.BAD);
        for (char c = 'a'; c <= 'f'; c++) {
            Check.declare(x, String.valueOf(c), 0, 0, 1);
        }
        check.due("STATE before FULL, no word", x.declare(0, 0, 1), Check.STATE);
        check.due("STATE before FULL, a word that is there", Check.declare(x, "f", 0, 0, 1), Check.STATE);
        check.due("FULL", Check.declare(x, "g", 0, 0, 1), Check.FULL);
        check.due("BAD before FULL", Check.declare(x, "g", 0, 1, 0), Check.BAD);
    }

    /** Members a, b, c, d with numbers of times that tell them apart. */
    private static PhraseReader four() {
        PhraseReader x = new PhraseReader();
        Check.declare(x, "a", 0, 0, 1);
        Check.declare(x, "b", 1, 0, 2);
        Check.declare(x, "c", 2, 0, 3);
        Check.declare(x, "d", 0, 1, 1);
        return x;
    }

    private static void remove() {
        PhraseReader x = four();
        for (int m : new int[] {-1, 4, 5, 6, Integer.MIN_VALUE, Integer.MAX_VALUE}) {
            check.due("remove(" + m + ")", x.remove(m), Check.BAD);
        }
        check.due("told(5)", x.told(5), 4);
        check.due("remove(1)", x.remove(1), 3);
        check.same("remove(1)", Check.declared(x),
                "3 members, separator 0; a 0 0 1 0 before 0; c 2 0 3 0 before 0; d 0 1 1 0 before 0");
        check.due("told(5): a change", x.told(5), 5);
        check.due("remove(2)", x.remove(2), 2);
        check.due("remove(2) again", x.remove(2), Check.BAD);
        check.due("remove(0)", x.remove(0), 1);
        check.due("remove(0)", x.remove(0), 0);
        check.due("remove(0) of none", x.remove(0), Check.BAD);
        check.due("undo()", x.undo(), 7);
        check.same("undo()", Check.declared(x), "1 members, separator 0; c 2 0 3 0 before 0");
    }

    private static void removeRenumbersRules() {
        PhraseReader x = four();
        x.rule(0, 1, 1);
        x.rule(1, 2, 1);
        x.rule(0, 2, 1);
        x.rule(3, 0, 1);
        x.rule(2, 3, 1);
        x.rule(3, 1, 1);
        check.due("remove(1)", x.remove(1), 3);
        check.due("told(2)", x.told(2), 3);
        check.due("a before c", x.member(0, 8), 2);
        check.due("c before d", x.member(1, 8), 4);
        check.due("d before a", x.member(2, 8), 1);
        check.due("remove(2)", x.remove(2), 2);
        check.due("told(2)", x.told(2), 1);
        check.due("c before none", x.member(1, 8), 0);
        Check.declare(x, "e", 0, 0, 1);
        check.due("no rule about a new member", x.told(2), 1);
    }

    private static void set() {
        PhraseReader x = new PhraseReader();
        Check.declare(x, "a", 0, 0, 1);
        Check.declare(x, "b", 0, 1, 2);
        check.due("set(1, 0, 2)", x.set(1, 0, 2), 0);
        check.due("set(1, 0, 1)", x.set(1, 0, 1), 2);
        check.due("set(1, 0, 0)", x.set(1, 0, 0), 1);
        check.due("set(1, 1, 2)", x.set(1, 1, 2), 1);
        check.due("set(1, 1, 0)", x.set(1, 1, 0), 2);
        check.due("set(1, 2, 3)", x.set(1, 2, 3), 2);
        check.due("set(1, 1, 3)", x.set(1, 1, 3), 0);
        check.due("set(1, 3, 999)", x.set(1, 3, 999), 0);
        check.due("told(5) after 8 changes and more", x.told(5), 8);
        check.due("set(1, 3, 1)", x.set(1, 3, 1), 999);
        check.due("set(1, 3, 0)", x.set(1, 3, 0), 1);
        check.due("set(0, 0, 2)", x.set(0, 0, 2), 0);
        check.same("set", Check.declared(x), "2 members, separator 0; a 2 0 1 0 before 0; b 0 3 3 0 before 0");
        PhraseReader z = new PhraseReader();
        Check.declare(z, "a", 0, 1, 3);
        check.due("set(0, 2, 1): the least is as great", z.set(0, 2, 1), 3);
        check.due("set(0, 2, 2)", z.set(0, 2, 2), 1);
        check.due("set(0, 1, 2): the greatest is as great", z.set(0, 1, 2), 1);
        check.due("set(0, 2, 2)", z.set(0, 2, 2), 2);
        check.due("set(0, 1, 0)", z.set(0, 1, 0), 2);
        check.due("set(0, 2, 1)", z.set(0, 2, 1), 2);
        PhraseReader y = new PhraseReader();
        Check.declare(y, "a", 0, 0, 1);
        check.due("set to what it was", y.set(0, 0, 0), 0);
        check.due("that is a change too", y.told(5), 2);
    }

    private static void setRefuses() {
        PhraseReader x = new PhraseReader();
        Check.declare(x, "a", 1, 1, 2);
        x.set(0, 3, 77);
        int least = Integer.MIN_VALUE, most = Integer.MAX_VALUE;
        int[][] wrong = {{-1, 0, 0}, {1, 0, 0}, {6, 0, 0}, {least, 0, 0}, {most, 0, 0}, {0, -1, 0}, {0, 4, 0}, {0, 4, 1},
            {0, 5, 1}, {0, least, 0}, {0, most, 0}, {0, 0, -1}, {0, 0, 3}, {0, 0, least}, {0, 0, most}, {0, 1, -1},
            {0, 1, 3}, {0, 1, 4}, {0, 1, least}, {0, 1, most}, {0, 2, 0}, {0, 2, -1}, {0, 2, 4}, {0, 2, least},
            {0, 2, most}, {0, 3, -1}, {0, 3, 1000}, {0, 3, least}, {0, 3, most}};
        for (int[] w : wrong) {
            check.due("set(" + w[0] + ", " + w[1] + ", " + w[2] + ")", x.set(w[0], w[1], w[2]), Check.BAD);
        }
        check.due("set(0, 1, 2)", x.set(0, 1, 2), 1);
        check.due("set(0, 2, 1), less than the least", x.set(0, 2, 1), Check.BAD);
        check.due("set(0, 1, 0)", x.set(0, 1, 0), 2);
        check.due("set(0, 2, 0): at least 1", x.set(0, 2, 0), Check.BAD);
        check.same("set", Check.declared(x), "1 members, separator 0; a 1 0 2 77 before 0");
        check.due("told(5)", x.told(5), 4);
    }

    private static void move() {
        PhraseReader x = four();
        int[][] wrong = {{-1, 0}, {4, 0}, {0, -1}, {0, 4}, {4, 4}, {-1, -1}, {Integer.MIN_VALUE, 0},
            {0, Integer.MIN_VALUE}, {Integer.MAX_VALUE, 0}, {0, Integer.MAX_VALUE}};
        for (int[] w : wrong) {
            check.due("move(" + w[0] + ", " + w[1] + ")", x.move(w[0], w[1]), Check.BAD);
        }
        check.due("told(5)", x.told(5), 4);
        check.due("move(0, 2)", x.move(0, 2), 2);
        check.same("move(0, 2)", words(x), "bcad");
        check.due("move(3, 0)", x.move(3, 0), 0);
        check.same("move(3, 0)", words(x), "dbca");
        check.due("move(1, 1)", x.move(1, 1), 1);
        check.same("move(1, 1)", words(x), "dbca");
        check.due("told(5): each is a change", x.told(5), 7);
        check.due("move(0, 3)", x.move(0, 3), 3);
        check.same("move(0, 3)", words(x), "bcad");
        check.same("move", Check.declared(x), "4 members, separator 0; b 1 0 2 0 before 0; c 2 0 3 0 before 0;"
                + " a 0 0 1 0 before 0; d 0 1 1 0 before 0");
        x.undo();
        check.same("undo()", words(x), "dbca");
    }

    private static String words(PhraseReader x) {
        StringBuilder words = new StringBuilder();
        for (int m = 0; m < x.told(0); m++) {
            words.append((char) x.member(m, 5));
        }
        return words.toString();
    }

    private static void moveTakesRulesAlong() {
        PhraseReader x = four();
        x.rule(0, 1, 1);
        x.rule(0, 3, 1);
        x.rule(2, 0, 1);
        x.rule(3, 2, 1);
        x.move(0, 2);
        check.due("b", x.member(0, 8), 0);
        check.due("c before a", x.member(1, 8), 4);
        check.due("a before b, d", x.member(2, 8), 1 + 8);
        check.due("d before c", x.member(3, 8), 2);
        x.move(3, 1);
        check.due("b", x.member(0, 8), 0);
        check.due("d before c", x.member(1, 8), 4);
        check.due("c before a", x.member(2, 8), 8);
        check.due("a before b, d", x.member(3, 8), 1 + 2);
        check.due("told(2)", x.told(2), 4);
    }

    private static void setSeparator() {
        PhraseReader x = new PhraseReader();
        for (int code : new int[] {-1, 1, 32, 48, 97, Integer.MIN_VALUE, Integer.MAX_VALUE}) {
            check.due("setSeparator(" + code + ")", x.setSeparator(code), Check.BAD);
        }
        check.due("told(5)", x.told(5), 0);
        check.due("setSeparator(33)", x.setSeparator(33), 0);
        check.due("setSeparator(47)", x.setSeparator(47), 33);
        check.due("told(1)", x.told(1), 47);
        check.due("setSeparator(0)", x.setSeparator(0), 47);
        check.due("setSeparator(0) again", x.setSeparator(0), 0);
        check.due("told(5): each is a change", x.told(5), 4);
        x.undo();
        x.undo();
        check.due("told(1) after undo", x.told(1), 47);
    }

    private static void rule() {
        PhraseReader x = four();
        int least = Integer.MIN_VALUE, most = Integer.MAX_VALUE;
        int[][] wrong = {{0, 0, 1}, {3, 3, 0}, {-1, 0, 1}, {0, -1, 1}, {4, 0, 1}, {0, 4, 1}, {0, 1, 2}, {0, 1, -1},
            {least, 0, 1}, {0, least, 1}, {most, 0, 1}, {0, most, 1}, {0, 1, least}, {0, 1, most}, {-1, -1, 1}};
        for (int[] w : wrong) {
            check.due("rule(" + w[0] + ", " + w[1] + ", " + w[2] + ")", x.rule(w[0], w[1], w[2]), Check.BAD);
        }
        check.due("told(5)", x.told(5), 4);
        check.due("rule(0, 1, 0) that is not there", x.rule(0, 1, 0), 0);
        check.due("told(5): a change even so", x.told(5), 5);
        check.due("rule(0, 1, 1)", x.rule(0, 1, 1), 0);
        check.due("rule(0, 1, 1) again", x.rule(0, 1, 1), 1);
        check.due("rule(1, 0, 1), the other way", x.rule(1, 0, 1), 0);
        check.due("told(2)", x.told(2), 2);
        check.due("rule(0, 1, 0)", x.rule(0, 1, 0), 1);
        check.due("told(2)", x.told(2), 1);
        check.due("told(5)", x.told(5), 8);
        check.due("undo()", x.undo(), 7);
        check.due("told(2) after undo", x.told(2), 2);
        check.due("the ends of six", endsOfSix(), 1 << 5);
    }

    private static int endsOfSix() {
        PhraseReader x = four();
        Check.declare(x, "e", 0, 0, 1);
        Check.declare(x, "f", 0, 0, 1);
        x.rule(0, 5, 1);
        x.rule(5, 0, 1);
        return x.member(5, 8) == 1 ? x.member(0, 8) : -100;
    }

    private static void undo() {
        PhraseReader x = new PhraseReader();
        check.due("undo() of nothing", x.undo(), Check.STATE);
        Check.declare(x, "a", 1, 0, 2);
        Check.declare(x, "b", 0, 0, 1);
        x.set(0, 3, 5);
        x.rule(1, 0, 1);
        x.setSeparator(44);
        Check.text(x, "a7,b");
        x.keep(1);
        check.due("undo() of setSeparator", x.undo(), 4);
        check.due("told(1)", x.told(1), 0);
        check.due("told(4): the text stays", x.told(4), 4);
        check.due("undo() of rule", x.undo(), 3);
        check.due("told(2)", x.told(2), 0);
        check.due("undo() of set", x.undo(), 2);
        check.due("member(0, 3)", x.member(0, 3), 0);
        check.due("undo() of declare", x.undo(), 1);
        check.due("told(0)", x.told(0), 1);
        check.due("undo() of declare", x.undo(), 0);
        check.due("told(0)", x.told(0), 0);
        check.due("undo() of nothing more", x.undo(), Check.STATE);
        check.due("back(1): the images stay", x.back(1), 2);
        check.same("back(1)", Check.declared(x), "2 members, separator 44; a 1 0 2 5 before 0; b 0 0 1 0 before 1");
        check.due("undo() of back", x.undo(), 0);
        check.due("told(0)", x.told(0), 0);
    }

    private static void undoKeepsEightStates() {
        PhraseReader x = new PhraseReader();
        Check.declare(x, "a", 0, 0, 1);
        for (int v = 1; v <= 20; v++) {
            x.set(0, 3, v);
            check.due("told(5) after " + (v + 1) + " changes", x.told(5), Math.min(8, v + 1));
        }
        for (int left = 7; left >= 0; left--) {
            check.due("undo()", x.undo(), left);
            check.due("member(0, 3)", x.member(0, 3), 12 + left);
        }
        check.due("undo() of a dropped change", x.undo(), Check.STATE);
        check.due("member(0, 3)", x.member(0, 3), 12);
        x.set(0, 3, 40);
        check.due("undo() of a new change", x.undo(), 0);
        check.due("member(0, 3)", x.member(0, 3), 12);
    }

    private static void failedCallsChangeNothing() {
        PhraseReader x = four();
        x.rule(0, 1, 1);
        Check.text(x, "d");
        String before = Check.declared(x);
        x.declare(0, 0, 1);
        x.declare(0, 3, 1);
        x.remove(4);
        x.set(0, 1, 2);
        x.move(0, 4);
        x.setSeparator(48);
        x.rule(1, 1, 1);
        x.back(0);
        x.back(2);
        x.keep(2);
        x.write(127);
        check.same("failed calls", Check.declared(x), before);
        check.due("told(4)", x.told(4), 1);
        check.due("told(5)", x.told(5), 5);
        check.due("readings()", x.readings(), 1);
    }
}
