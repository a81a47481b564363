import java.util.LinkedHashSet;
import java.util.Set;
import java.util.function.IntPredicate;
import java.util.function.Supplier;

/**
 * The range of each argument: BAD for each value outside, and for none inside. Tried are the least
 * and the greatest allowed value, those next to them, the least and the greatest int, and values
 * that are allowed ones again if only some of their bits are looked at.
 */
public final class ArgumentEdgeTest {
    private interface Call {
        long answer(PhraseReader x, int v);
    }

    private static final Check check = new Check("ArgumentEdgeTest");
    private static final int LEAST = Integer.MIN_VALUE, MOST = Integer.MAX_VALUE;

    public static void main(String[] args) {
        write();
        declare();
        remove();
        set();
        setLeastAndGreatest();
        move();
        setSeparator();
        rule();
        ruleOfTheSame();
        toldAndMember();
        readingArguments(States.SIX_READ);
        readingArguments("q");
        readingArguments("");
        orders();
        order();
        images();
        check.end();
    }

    private static Set<Integer> tried(int low, int high) {
        Set<Integer> tried = new LinkedHashSet<>();
        for (int v = -3; v <= 3; v++) {
            tried.add(low + v);
            tried.add(high + v);
            tried.add(v);
            tried.add(LEAST + 3 + v);
            tried.add(MOST - 3 + v);
        }
        for (int v = low; v <= high && v < low + 8; v++) {
            for (int far : new int[] {32, 64, 128, 256, 1 << 16, 1 << 24, 1 << 30, LEAST}) {
                tried.add(v + far);
                tried.add(v - far);
            }
            tried.add(-v);
            tried.add(~v);
        }
        return tried;
    }

    private static void dueIn(String call, Supplier<PhraseReader> made, Call c, int low, int high, IntPredicate inside) {
        for (int v : tried(low, high)) {
            long got = c.answer(made.get(), v);
            check.due(call + " with " + v + " is BAD", got == Check.BAD ? 1 : 0, inside.test(v) ? 0 : 1);
        }
    }

    private static void dueFrom(String call, Supplier<PhraseReader> made, Call c, int low, int high) {
        dueIn(call, made, c, low, high, v -> v >= low && v <= high);
    }

    private static void write() {
        dueFrom("write(v)", States::fresh, (x, v) -> x.write(v), 32, 126);
        dueFrom("write(v) in a full text", () -> States.six(States.SIX_FULL), (x, v) -> x.write(v), 32, 126);
        for (int code = -200; code <= 400; code++) {
            int due = code >= 32 && code <= 126 ? 1 : Check.BAD;
            check.due("write(" + code + ")", new PhraseReader().write(code), due);
        }
    }

    private static PhraseReader withWord() {
        PhraseReader x = new PhraseReader();
        x.write('w');
        return x;
    }

    private static void declare() {
        dueFrom("declare(v, 0, 1)", ArgumentEdgeTest::withWord, (x, v) -> x.declare(v, 0, 1), 0, 2);
        dueFrom("declare(0, v, 3)", ArgumentEdgeTest::withWord, (x, v) -> x.declare(0, v, 3), 0, 3);
        dueFrom("declare(0, v, 1)", ArgumentEdgeTest::withWord, (x, v) -> x.declare(0, v, 1), 0, 1);
        dueFrom("declare(0, 0, v)", ArgumentEdgeTest::withWord, (x, v) -> x.declare(0, 0, v), 1, 3);
        dueFrom("declare(0, 3, v)", ArgumentEdgeTest::withWord, (x, v) -> x.declare(0, 3, v), 3, 3);
        for (int kind = -1; kind <= 3; kind++) {
            for (int least = -1; least <= 4; least++) {
                for (int most = -1; most <= 4; most++) {
                    PhraseReader x = withWord();
                    boolean fits = kind >= 0 && kind <= 2 && least >= 0 && least <= 3 && most >= 1 && most <= 3
                            && least <= most;
                    String call = "declare(" + kind + ", " + least + ", " + most + ")";
                    check.due(call, x.declare(kind, least, most), fits ? 0 : Check.BAD);
                    check.due(call + ": told(0)", x.told(0), fits ? 1 : 0);
                }
            }
        }
    }

    private static void remove() {
        dueIn("remove(v) of none", States::fresh, (x, v) -> x.remove(v), 0, 5, v -> false);
        dueFrom("remove(v) of one", States::one, (x, v) -> x.remove(v), 0, 0);
        dueFrom("remove(v) of six", States::six, (x, v) -> x.remove(v), 0, 5);
    }

    private static void set() {
        int[] greatest = {2, 3, 3, 999};
        for (int what = 0; what <= 3; what++) {
            int w = what;
            int fits = what == 2 ? 1 : 0;
            dueIn("set(v, " + w + ", ..) of none", States::fresh, (x, v) -> x.set(v, w, fits), 0, 5, v -> false);
            dueFrom("set(v, " + w + ", ..) of one", States::one, (x, v) -> x.set(v, w, fits), 0, 0);
            dueFrom("set(v, " + w + ", ..) of six", States::six, (x, v) -> x.set(v, w, fits), 0, 5);
            dueFrom("set(0, " + w + ", v)", States::six, (x, v) -> x.set(0, w, v), fits, greatest[w]);
        }
        dueFrom("set(0, v, 1)", States::six, (x, v) -> x.set(0, v, 1), 0, 3);
    }

    /** "or the least number of times would be greater than the greatest one" */
    private static void setLeastAndGreatest() {
        for (int most = 1; most <= 3; most++) {
            for (int least = 0; least <= most; least++) {
                for (int v = -1; v <= 4; v++) {
                    PhraseReader x = States.letters(1, least, most);
                    boolean fits = v >= 0 && v <= most;
                    String state = "from " + least + " to " + most + ": ";
                    check.due(state + "set(0, 1, " + v + ")", x.set(0, 1, v), fits ? least : Check.BAD);
                    check.due(state + "member(0, 1) then", x.member(0, 1), fits ? v : least);
                    PhraseReader y = States.letters(1, least, most);
                    fits = v >= 1 && v <= 3 && v >= least;
                    check.due(state + "set(0, 2, " + v + ")", y.set(0, 2, v), fits ? most : Check.BAD);
                    check.due(state + "member(0, 2) then", y.member(0, 2), fits ? v : most);
                }
            }
        }
    }

    private static void move() {
        dueIn("move(v, v) of none", States::fresh, (x, v) -> x.move(v, v), 0, 5, v -> false);
        dueIn("move(0, v) of none", States::fresh, (x, v) -> x.move(0, v), 0, 5, v -> false);
        dueFrom("move(v, 0) of one", States::one, (x, v) -> x.move(v, 0), 0, 0);
        dueFrom("move(0, v) of one", States::one, (x, v) -> x.move(0, v), 0, 0);
        dueFrom("move(v, 5) of six", States::six, (x, v) -> x.move(v, 5), 0, 5);
        dueFrom("move(5, v) of six", States::six, (x, v) -> x.move(5, v), 0, 5);
        dueFrom("move(v, v) of six", States::six, (x, v) -> x.move(v, v), 0, 5);
    }

    private static void setSeparator() {
        IntPredicate inside = v -> v == 0 || v >= 33 && v <= 47;
        dueIn("setSeparator(v)", States::fresh, (x, v) -> x.setSeparator(v), 33, 47, inside);
        dueIn("setSeparator(v)", States::six, (x, v) -> x.setSeparator(v), 0, 0, inside);
        for (int code = -200; code <= 400; code++) {
            PhraseReader x = new PhraseReader();
            check.due("setSeparator(" + code + ")", x.setSeparator(code), inside.test(code) ? 0 : Check.BAD);
            check.due("told(1) then", x.told(1), inside.test(code) ? code : 0);
        }
    }

    private static void rule() {
        dueIn("rule(v, 0, 1) of none", States::fresh, (x, v) -> x.rule(v, 0, 1), 0, 5, v -> false);
        dueIn("rule(0, v, 1) of one", States::one, (x, v) -> x.rule(0, v, 1), 0, 5, v -> false);
        for (int on = 0; on <= 1; on++) {
            int o = on;
            dueFrom("rule(v, 5, " + o + ")", States::six, (x, v) -> x.rule(v, 5, o), 0, 4);
            dueFrom("rule(5, v, " + o + ")", States::six, (x, v) -> x.rule(5, v, o), 0, 4);
            dueFrom("rule(v, 0, " + o + ")", States::six, (x, v) -> x.rule(v, 0, o), 1, 5);
            dueFrom("rule(0, v, " + o + ")", States::six, (x, v) -> x.rule(0, v, o), 1, 5);
        }
        dueFrom("rule(0, 1, v)", States::six, (x, v) -> x.rule(0, 1, v), 0, 1);
        dueFrom("rule(0, 3, v) that is there", States::six, (x, v) -> x.rule(0, 3, v), 0, 1);
    }

    /** "BAD if .. both are the same" */
    private static void ruleOfTheSame() {
        for (int m = 0; m < 6; m++) {
            for (int on = 0; on <= 1; on++) {
                PhraseReader x = States.six();
                check.due("rule(" + m + ", " + m + ", " + on + ")", x.rule(m, m, on), Check.BAD);
                check.due("told(2)", x.told(2), 2);
            }
        }
    }

    private static void toldAndMember() {
        dueFrom("told(v)", States::fresh, (x, v) -> x.told(v), 0, 7);
        dueFrom("told(v) of six", () -> States.six(States.SIX_FULL), (x, v) -> x.told(v), 0, 7);
        for (int what = 0; what <= 9; what++) {
            int w = what;
            dueIn("member(v, " + w + ") of none", States::fresh, (x, v) -> x.member(v, w), 0, 5, v -> false);
            dueFrom("member(v, " + w + ") of one", States::one, (x, v) -> x.member(v, w), 0, 0);
            dueFrom("member(v, " + w + ") of six", States::six, (x, v) -> x.member(v, w), 0, 5);
        }
        dueFrom("member(0, v)", States::one, (x, v) -> x.member(0, v), 0, 9);
        dueFrom("member(5, v)", States::six, (x, v) -> x.member(5, v), 0, 9);
        dueIn("member(0, v) of none", States::fresh, (x, v) -> x.member(0, v), 0, 9, v -> false);
    }

    /** The same ranges hold whether the text has a reading or not. */
    private static void readingArguments(String text) {
        Supplier<PhraseReader> six = () -> States.six(text);
        String of = " of <" + text + ">";
        dueFrom("occurrence(v, 0)" + of, six, (x, v) -> x.occurrence(v, 0), 0, MOST);
        dueFrom("occurrence(v, 2)" + of, six, (x, v) -> x.occurrence(v, 2), 0, MOST);
        dueFrom("occurrence(0, v)" + of, six, (x, v) -> x.occurrence(0, v), 0, 2);
        dueFrom("occurrence(60, v)" + of, six, (x, v) -> x.occurrence(60, v), 0, 2);
        dueFrom("value(v, 0)" + of, six, (x, v) -> x.value(v, 0), 0, 5);
        dueFrom("value(v, 60)" + of, six, (x, v) -> x.value(v, 60), 0, 5);
        dueFrom("value(0, v)" + of, six, (x, v) -> x.value(0, v), 0, MOST);
        dueFrom("value(5, v)" + of, six, (x, v) -> x.value(5, v), 0, MOST);
        dueFrom("normal(v)" + of, six, (x, v) -> x.normal(v), 0, MOST);
        Supplier<PhraseReader> none = () -> {
            PhraseReader x = new PhraseReader();
            Check.text(x, text);
            return x;
        };
        dueFrom("occurrence(v, 1) of none" + of, none, (x, v) -> x.occurrence(v, 1), 0, MOST);
        dueIn("value(v, 0) of none" + of, none, (x, v) -> x.value(v, 0), 0, 5, v -> false);
        dueFrom("normal(v) of none" + of, none, (x, v) -> x.normal(v), 0, MOST);
    }

    private static void orders() {
        dueFrom("orders(v) of none", States::fresh, (x, v) -> x.orders(v), -1, 18);
        dueFrom("orders(v) of six", States::six, (x, v) -> x.orders(v), -1, 18);
        for (int length = -1; length <= 18; length++) {
            long due = length <= 0 ? 1 : 0;
            check.due("orders(" + length + ") of none", new PhraseReader().orders(length), due);
        }
    }

    private static void order() {
        dueFrom("order(v, 0) of none", States::fresh, (x, v) -> x.order(v, 0), 0, MOST);
        dueFrom("order(v, 0) of six", States::six, (x, v) -> x.order(v, 0), 0, MOST);
        dueFrom("order(0, v) of none", States::fresh, (x, v) -> x.order(0, v), 0, MOST);
        dueFrom("order(0, v) of six", States::six, (x, v) -> x.order(0, v), 0, MOST);
        dueFrom("order(greatest, v)", States::six, (x, v) -> x.order(Long.MAX_VALUE, v), 0, MOST);
        long[] negative = {-1, -2, Long.MIN_VALUE, Long.MIN_VALUE + 1, LEAST, LEAST - 1L, -1L << 32, (-1L << 32) + 1};
        for (long n : negative) {
            check.due("order(" + n + ", 0)", States.six().order(n, 0), Check.BAD);
            check.due("order(" + n + ", 0) of none", new PhraseReader().order(n, 0), Check.BAD);
        }
    }

    private static void images() {
        dueFrom("keep(v)", States::fresh, (x, v) -> x.keep(v), 0, 1);
        dueFrom("keep(v) of six", States::six, (x, v) -> x.keep(v), 0, 1);
        dueFrom("back(v) of nothing", States::fresh, (x, v) -> x.back(v), 0, 1);
        dueFrom("back(v)", () -> {
            PhraseReader x = States.six();
            x.keep(0);
            x.keep(1);
            return x;
        }, (x, v) -> x.back(v), 0, 1);
    }
}
