/** Promises 11 and 12: told, member. */
public final class ToldTest {
    private static final Check check = new Check("ToldTest");

    public static void main(String[] args) {
        told();
        clashes();
        member();
        check.end();
    }

    private static void told() {
        PhraseReader x = new PhraseReader();
        for (int what : new int[] {-1, 8, Integer.MIN_VALUE, Integer.MAX_VALUE}) {
            check.due("told(" + what + ")", x.told(what), Check.BAD);
        }
        for (char c = 'a'; c <= 'f'; c++) {
            Check.declare(x, String.valueOf(c), 0, 3, 3);
        }
        check.due("told(0)", x.told(0), 6);
        check.due("told(6)", x.told(6), 18);
        check.due("told(7)", x.told(7), 18);
        x.set(5, 1, 0);
        x.set(4, 1, 1);
        x.set(4, 2, 2);
        check.due("told(6)", x.told(6), 13);
        check.due("told(7)", x.told(7), 17);
        x.setSeparator(40);
        check.due("told(1)", x.told(1), 40);
        check.due("told(3)", x.told(3), 0);
        check.due("told(5)", x.told(5), 8);
        Check.text(x, "abcde");
        check.due("told(4)", x.told(4), 5);
        for (int a = 0; a < 6; a++) {
            for (int b = 0; b < 6; b++) {
                x.rule(a, b, 1);
            }
        }
        check.due("told(2): each rule once", x.told(2), 30);
        check.due("told(6) counts without the rules", x.told(6), 13);
        check.due("told(7) counts without the rules", x.told(7), 17);
    }

    private static void clashes() {
        PhraseReader x = new PhraseReader();
        String[] words = {"ab", "abc", "b", "a", "abd", "bc"};
        for (String w : words) {
            Check.declare(x, w, 0, 0, 1);
        }
        check.due("told(3)", x.told(3), 6);
        int[] sets = {2 + 8 + 16, 1 + 8, 32, 1 + 2 + 16, 1 + 8, 4};
        for (int m = 0; m < 6; m++) {
            check.due("member(" + m + ", 9)", x.member(m, 9), sets[m]);
        }
        x.remove(0);
        check.due("told(3) without ab", x.told(3), 3);
        check.due("member(2, 9): a clashes with abc, abd", x.member(2, 9), 1 + 8);
        PhraseReader y = new PhraseReader();
        Check.declare(y, "ab", 0, 0, 1);
        Check.declare(y, "ba", 0, 0, 1);
        Check.declare(y, "aa", 0, 0, 1);
        Check.declare(y, "cab", 0, 0, 1);
        check.due("told(3): an end or a middle is no beginning", y.told(3), 0);
        check.due("member(0, 9)", y.member(0, 9), 0);
    }

    private static void member() {
        PhraseReader x = new PhraseReader();
        Check.declare(x, "xyz", 2, 1, 3);
        Check.declare(x, "no", 1, 0, 2);
        Check.declare(x, "p", 0, 2, 2);
        x.set(1, 3, 321);
        x.rule(0, 1, 1);
        x.rule(1, 2, 1);
        int least = Integer.MIN_VALUE, most = Integer.MAX_VALUE;
        int[][] wrong = {{-1, 0}, {3, 0}, {5, 4}, {6, 5}, {least, 0}, {most, 0}, {0, -1}, {0, 10}, {0, least}, {0, most}};
        for (int[] w : wrong) {
            check.due("member(" + w[0] + ", " + w[1] + ")", x.member(w[0], w[1]), Check.BAD);
        }
        int none = Check.NONE;
        long[][] dues = {{2, 1, 3, 0, 3, 'x', 'y', 'z', 2, 0}, {1, 0, 2, 321, 2, 'n', 'o', none, 4, 0},
            {0, 2, 2, 0, 1, 'p', none, none, 0, 0}};
        for (int m = 0; m < 3; m++) {
            for (int what = 0; what <= 9; what++) {
                check.due("member(" + m + ", " + what + ")", x.member(m, what), dues[m][what]);
            }
        }
    }
}
