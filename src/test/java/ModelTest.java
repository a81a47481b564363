/**
 * Runs of calls on the class and on the model, whose answers must be the same. The calls are drawn
 * by a formula of fixed seeds, so that each run of the test makes the same ones.
 */
public final class ModelTest {
    private static final int RUNS = 480;
    /** An object answers 512 calls; the greatest step, which writes a full text, makes less than 80. */
    private static final int CALLS = 512 - 80;
    private static final String[] WORDS = {"a", "b", "c", "aa", "ab", "ba", "bb", "abc", "aab", "aba", "bab", "abb",
        "z", "zz", "zzz", "xyz"};

    private static final Check check = new Check("ModelTest");
    private static long skipped;

    private final PhraseReader x = new PhraseReader();
    private final Model model = new Model();
    private final int words;
    private final int mostTimes;
    private final int run;
    private long seed;
    private int calls;

    private ModelTest(int run) {
        this.run = run;
        seed = run * 7919L + 17;
        words = draw(2) == 0 ? 6 : WORDS.length;
        mostTimes = 1 + draw(3);
    }

    public static void main(String[] args) {
        for (int run = 1; run <= RUNS; run++) {
            new ModelTest(run).calls();
        }
        System.out.println("ModelTest: " + skipped + " answers of which the model says nothing");
        check.end();
    }

    /** A number from 0 to bound - 1. */
    private int draw(int bound) {
        seed = seed * 6364136223846793005L + 1442695040888963407L;
        return (int) ((seed >>> 33) % bound);
    }

    private void calls() {
        int members = 1 + draw(6);
        for (int m = 0; m < members; m++) {
            declare();
        }
        while (calls < CALLS) {
            act();
        }
    }

    private void act() {
        int kind = draw(20);
        if (kind < 8) {
            write(phrase());
            askOfText(4 + draw(5));
        } else if (kind < 12) {
            change();
            if (draw(3) == 0) {
                change();
            }
            askOfText(3);
        } else if (kind < 14) {
            call(7 + draw(2));
        } else if (kind < 16) {
            call(9 + draw(3));
        } else if (kind == 16) {
            declare();
        } else if (kind == 17) {
            call(0);
            askOfText(2);
        } else {
            call(draw(24));
        }
    }

    private void askOfText(int asked) {
        for (int i = 0; i < asked; i++) {
            call(12 + draw(7));
        }
    }

    private void change() {
        int[] changes = {1, 2, 2, 2, 3, 4, 5, 5, 6, 20, 20, 19};
        call(changes[draw(changes.length)]);
    }

    private void declare() {
        wipe();
        write(WORDS[draw(words)], false);
        int most = 1 + draw(mostTimes);
        int least = draw(3) == 0 ? draw(most + 1) : 0;
        int kind = draw(2) == 0 ? 0 : draw(3);
        due("declare", x.declare(kind, least, most), model.declare(kind, least, most));
    }

    private void write(String text) {
        write(text, true);
    }

    private void write(String text, boolean wiped) {
        if (wiped) {
            wipe();
        }
        for (char c : text.toCharArray()) {
            due("write", x.write(c), model.write(c));
        }
    }

    private void wipe() {
        due("wipe", x.wipe(), model.wipe());
    }

    /** A text that is a phrase, nearly one, or a bit of everything. */
    private String phrase() {
        StringBuilder text = new StringBuilder();
        int occurrences = draw(8);
        int members = model.now.items.size();
        for (int i = 0; i < occurrences && members > 0; i++) {
            if (i > 0 && model.now.separator != 0) {
                text.append((char) model.now.separator);
            }
            append(text, model.now.items.get(draw(members)));
        }
        String signs = "ab1Z,!c0";
        int spoilt = draw(6);
        if (spoilt == 0 && text.length() > 0) {
            text.deleteCharAt(draw(text.length()));
        } else if (spoilt == 1) {
            text.insert(draw(text.length() + 1), signs.charAt(draw(signs.length())));
        } else if (spoilt == 2) {
            text.setLength(draw(text.length() + 1));
        } else if (spoilt == 3 && model.now.separator != 0) {
            text.append((char) model.now.separator);
        }
        return text.toString();
    }

    private void append(StringBuilder text, Model.Item item) {
        text.append(item.word);
        if (item.kind == 1) {
            int digits = 1 + draw(3) + (draw(9) == 0 ? 1 : 0);
            for (int i = 0; i < digits; i++) {
                text.append((char) ('0' + (draw(3) == 0 ? 0 : draw(10))));
            }
        } else if (item.kind == 2) {
            text.append((char) ('A' + draw(26)));
        }
    }

    private void due(String call, long got, long want) {
        calls++;
        check.due("run " + run + ", call " + calls + " " + call + " with <" + model.text + ">", got, want);
    }

    /** A member, seldom one that is not there. */
    private int someMember() {
        int members = model.now.items.size();
        int[] wrong = {-1, members, members + 1, 6, Integer.MIN_VALUE, Integer.MAX_VALUE};
        return members == 0 || draw(25) == 0 ? wrong[draw(wrong.length)] : draw(members);
    }

    /** A number from low to high, seldom one outside. */
    private int some(int low, int high) {
        int[] wrong = {low - 1, high + 1, Integer.MIN_VALUE, Integer.MAX_VALUE};
        return draw(25) == 0 ? wrong[draw(wrong.length)] : low + draw(high - low + 1);
    }

    private void call(int method) {
        try {
            make(method);
        } catch (Model.TooMuch e) {
            skipped++;
            calls++;
        }
    }

    private void make(int method) {
        switch (method) {
            case 0: { int c = some(32, 126); due("write " + c, x.write(c), model.write(c)); break; }
            case 1: { int m = someMember(); due("remove " + m, x.remove(m), model.remove(m)); break; }
            case 2: makeSet(); break;
            case 3: { int m = someMember(), to = someMember();
                due("move " + m + " " + to, x.move(m, to), model.move(m, to)); break; }
            case 4: { int c = draw(3) == 0 ? 0 : some(33, 47);
                due("setSeparator " + c, x.setSeparator(c), model.setSeparator(c)); break; }
            case 5: { int a = someMember(), b = someMember(), on = some(0, 1);
                due("rule " + a + " " + b + " " + on, x.rule(a, b, on), model.rule(a, b, on)); break; }
            case 6: due("undo", x.undo(), model.undo()); break;
            case 7: { int w = some(0, 7); due("told " + w, x.told(w), model.told(w)); break; }
            case 8: { int m = someMember(), w = some(0, 9);
                due("member " + m + " " + w, x.member(m, w), model.member(m, w)); break; }
            case 9: { int n = draw(2) == 0 ? some(-1, 18) : some(-1, 5);
                due("orders " + n, x.orders(n), model.orders(n)); break; }
            case 10: makeOrder(); break;
            case 11: due("rank", x.rank(), model.rank()); break;
            case 12: due("fault", x.fault(), model.fault()); break;
            case 13: due("readings", x.readings(), model.readings()); break;
            case 14: { int k = some(0, 7), w = some(0, 2);
                due("occurrence " + k + " " + w, x.occurrence(k, w), model.occurrence(k, w)); break; }
            case 15: { int m = someMember(), k = some(0, 3);
                due("value " + m + " " + k, x.value(m, k), model.value(m, k)); break; }
            case 16: due("next", x.next(), model.next()); break;
            case 17: { int i = some(0, 20); due("normal " + i, x.normal(i), model.normal(i)); break; }
            case 18: due("fault", x.fault(), model.fault()); break;
            case 19: { int i = some(0, 1); due("keep " + i, x.keep(i), model.keep(i)); break; }
            case 20: { int i = some(0, 1); due("back " + i, x.back(i), model.back(i)); break; }
            case 21: makeDeclare(); break;
            case 22: wipe(); break;
            default: due("undo", x.undo(), model.undo()); break;
        }
    }

    private void makeSet() {
        int[] greatest = {2, 3, 3, 999};
        int m = someMember();
        int what = some(0, 3);
        int v = some(0, what < 0 || what > 3 ? 3 : greatest[what]);
        due("set " + m + " " + what + " " + v, x.set(m, what, v), model.set(m, what, v));
    }

    private void makeDeclare() {
        int kind = some(0, 2), least = some(0, 3), most = some(1, 3);
        due("declare " + kind + " " + least + " " + most, x.declare(kind, least, most),
                model.declare(kind, least, most));
    }

    private void makeOrder() {
        int orders = (int) model.orders(-1);
        long[] far = {-1, orders, orders - 1, Long.MAX_VALUE, Long.MIN_VALUE, 1L << 32};
        long n = orders == 0 || draw(12) == 0 ? far[draw(far.length)] : draw(orders);
        int k = some(0, 6);
        due("order " + n + " " + k, x.order(n, k), model.order(n, k));
    }
}
