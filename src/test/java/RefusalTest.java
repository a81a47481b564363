import java.util.ArrayList;
import java.util.List;
import java.util.function.Supplier;
import java.util.function.ToLongFunction;

/**
 * "A call that returns one of them changes nothing": each call that must be refused is made in
 * several states, and what told, member, the reading methods, undo and back answer behind it is
 * what they answer without it.
 */
public final class RefusalTest {
    private record Refusal(String call, int code, ToLongFunction<PhraseReader> made) {
    }

    private static final Check check = new Check("RefusalTest");
    private static final int LEAST = Integer.MIN_VALUE, MOST = Integer.MAX_VALUE;

    public static void main(String[] args) {
        newObject();
        fullTextWithoutMembers();
        sixWithReading();
        sixWithFullText();
        sixWithNewWord();
        sixWithWordOfMember();
        leastAboveGreatest();
        allUndone();
        check.end();
    }

    private static void newObject() {
        List<Refusal> calls = outOfRange(0);
        calls.add(new Refusal("undo()", Check.STATE, x -> x.undo()));
        calls.add(new Refusal("declare(0, 0, 1)", Check.STATE, x -> x.declare(0, 0, 1)));
        calls.add(new Refusal("back(0)", Check.STATE, x -> x.back(0)));
        calls.add(new Refusal("back(1)", Check.STATE, x -> x.back(1)));
        dueIn("new", States::fresh, calls);
    }

    private static void fullTextWithoutMembers() {
        List<Refusal> calls = outOfRange(0);
        calls.add(new Refusal("write(97)", Check.FULL, x -> x.write(97)));
        calls.add(new Refusal("declare(2, 3, 3)", Check.STATE, x -> x.declare(2, 3, 3)));
        addWithoutReading(calls, 0);
        dueIn("full text, no members", () -> {
            PhraseReader x = new PhraseReader();
            Check.text(x, "a".repeat(60));
            x.keep(1);
            return x;
        }, calls);
    }

    private static void sixWithReading() {
        List<Refusal> calls = outOfRange(6);
        calls.add(new Refusal("declare(1, 0, 3)", Check.STATE, x -> x.declare(1, 0, 3)));
        calls.add(new Refusal("back(0)", Check.STATE, x -> x.back(0)));
        dueIn("six, a reading", () -> {
            PhraseReader x = States.six(States.SIX_READ);
            x.keep(1);
            return x;
        }, calls);
    }

    private static void sixWithFullText() {
        List<Refusal> calls = outOfRange(6);
        calls.add(new Refusal("write(44)", Check.FULL, x -> x.write(44)));
        calls.add(new Refusal("declare(1, 0, 3)", Check.STATE, x -> x.declare(1, 0, 3)));
        calls.add(new Refusal("back(0)", Check.STATE, x -> x.back(0)));
        calls.add(new Refusal("back(1)", Check.STATE, x -> x.back(1)));
        dueIn("six, a full text", () -> States.six(States.SIX_FULL), calls);
    }

    private static void sixWithNewWord() {
        List<Refusal> calls = outOfRange(6);
        calls.add(new Refusal("declare(0, 0, 1)", Check.FULL, x -> x.declare(0, 0, 1)));
        calls.add(new Refusal("declare(2, 3, 3)", Check.FULL, x -> x.declare(2, 3, 3)));
        addWithoutReading(calls, 6);
        dueIn("six, a new word", () -> States.six("q"), calls);
    }

    private static void sixWithWordOfMember() {
        List<Refusal> calls = outOfRange(6);
        calls.add(new Refusal("declare(0, 0, 1)", Check.STATE, x -> x.declare(0, 0, 1)));
        addWithoutReading(calls, 6);
        dueIn("six, a word of them", () -> States.six("ab"), calls);
    }

    private static void leastAboveGreatest() {
        List<Refusal> calls = outOfRange(2);
        calls.add(new Refusal("set(0, 2, 1): the least is 2", Check.BAD, x -> x.set(0, 2, 1)));
        calls.add(new Refusal("set(1, 1, 3): the greatest is 2", Check.BAD, x -> x.set(1, 1, 3)));
        calls.add(new Refusal("back(1)", Check.STATE, x -> x.back(1)));
        dueIn("two to three times", () -> {
            PhraseReader x = States.letters(2, 2, 3);
            x.set(1, 2, 2);
            x.keep(0);
            Check.text(x, "abab");
            return x;
        }, calls);
    }

    private static void allUndone() {
        List<Refusal> calls = outOfRange(1);
        calls.add(new Refusal("undo()", Check.STATE, x -> x.undo()));
        calls.add(new Refusal("declare(0, 0, 1)", Check.STATE, x -> x.declare(0, 0, 1)));
        calls.add(new Refusal("back(1)", Check.STATE, x -> x.back(1)));
        dueIn("all undone", () -> {
            PhraseReader x = States.one();
            x.set(0, 3, 5);
            for (int i = 0; i < 8; i++) {
                x.setSeparator(33 + i);
            }
            x.keep(0);
            while (x.told(5) > 0) {
                x.undo();
            }
            Check.text(x, "a");
            return x;
        }, calls);
    }

    private static void addWithoutReading(List<Refusal> calls, int members) {
        calls.add(new Refusal("occurrence(0, 0)", Check.STATE, x -> x.occurrence(0, 0)));
        calls.add(new Refusal("occurrence(greatest, 2)", Check.STATE, x -> x.occurrence(MOST, 2)));
        calls.add(new Refusal("normal(0)", Check.STATE, x -> x.normal(0)));
        calls.add(new Refusal("normal(greatest)", Check.STATE, x -> x.normal(MOST)));
        calls.add(new Refusal("rank()", Check.STATE, x -> x.rank()));
        if (members > 0) {
            calls.add(new Refusal("value(0, 0)", Check.STATE, x -> x.value(0, 0)));
            calls.add(new Refusal("value(last, greatest)", Check.STATE, x -> x.value(members - 1, MOST)));
        }
    }

    /** The calls with an argument out of its range, with so many members. */
    private static List<Refusal> outOfRange(int members) {
        List<Refusal> calls = new ArrayList<>();
        addOfText(calls);
        for (int m : new int[] {-1, members, LEAST, MOST}) {
            addOfMember(calls, m, members);
        }
        if (members > 0) {
            addOfSet(calls);
        }
        addOfQuestions(calls);
        for (int i : new int[] {-1, 2, LEAST, MOST}) {
            calls.add(new Refusal("keep(" + i + ")", Check.BAD, x -> x.keep(i)));
            calls.add(new Refusal("back(" + i + ")", Check.BAD, x -> x.back(i)));
        }
        return calls;
    }

    private static void addOfText(List<Refusal> calls) {
        for (int code : new int[] {31, 127, LEAST, MOST}) {
            calls.add(new Refusal("write(" + code + ")", Check.BAD, x -> x.write(code)));
        }
        int[][] wrong = {{-1, 0, 1}, {3, 0, 1}, {0, -1, 1}, {0, 4, 4}, {0, 0, 0}, {0, 0, 4}, {0, 2, 1}, {0, 3, 2}};
        for (int[] w : wrong) {
            calls.add(new Refusal("declare(" + w[0] + ", " + w[1] + ", " + w[2] + ")", Check.BAD,
                    x -> x.declare(w[0], w[1], w[2])));
        }
        for (int code : new int[] {-1, 1, 32, 48, LEAST, MOST}) {
            calls.add(new Refusal("setSeparator(" + code + ")", Check.BAD, x -> x.setSeparator(code)));
        }
    }

    private static void addOfMember(List<Refusal> calls, int m, int members) {
        int there = members > 0 ? 0 : m;
        calls.add(new Refusal("remove(" + m + ")", Check.BAD, x -> x.remove(m)));
        calls.add(new Refusal("set(" + m + ", 3, 1)", Check.BAD, x -> x.set(m, 3, 1)));
        calls.add(new Refusal("move(" + m + ", there)", Check.BAD, x -> x.move(m, there)));
        calls.add(new Refusal("move(there, " + m + ")", Check.BAD, x -> x.move(there, m)));
        calls.add(new Refusal("rule(" + m + ", there, 1)", Check.BAD, x -> x.rule(m, there, 1)));
        calls.add(new Refusal("rule(there, " + m + ", 1)", Check.BAD, x -> x.rule(there, m, 1)));
        calls.add(new Refusal("rule(0, 0, 1)", Check.BAD, x -> x.rule(0, 0, 1)));
        calls.add(new Refusal("rule(0, 1, 2)", Check.BAD, x -> x.rule(0, 1, 2)));
        calls.add(new Refusal("rule(0, 1, -1)", Check.BAD, x -> x.rule(0, 1, -1)));
        calls.add(new Refusal("member(" + m + ", 0)", Check.BAD, x -> x.member(m, 0)));
        calls.add(new Refusal("value(" + m + ", 0)", Check.BAD, x -> x.value(m, 0)));
    }

    private static void addOfSet(List<Refusal> calls) {
        int[][] wrong = {{-1, 0}, {4, 0}, {LEAST, 1}, {MOST, 1}, {0, -1}, {0, 3}, {1, -1}, {1, 4}, {2, 0}, {2, 4},
            {3, -1}, {3, 1000}, {0, LEAST}, {1, MOST}, {2, LEAST}, {3, MOST}};
        for (int[] w : wrong) {
            calls.add(new Refusal("set(0, " + w[0] + ", " + w[1] + ")", Check.BAD, x -> x.set(0, w[0], w[1])));
        }
    }

    private static void addOfQuestions(List<Refusal> calls) {
        for (int bad : new int[] {-1, LEAST}) {
            calls.add(new Refusal("normal(" + bad + ")", Check.BAD, x -> x.normal(bad)));
            calls.add(new Refusal("occurrence(" + bad + ", 0)", Check.BAD, x -> x.occurrence(bad, 0)));
            calls.add(new Refusal("value(0, " + bad + ")", Check.BAD, x -> x.value(0, bad)));
            calls.add(new Refusal("order(0, " + bad + ")", Check.BAD, x -> x.order(0, bad)));
        }
        for (int bad : new int[] {-1, 10, LEAST, MOST}) {
            calls.add(new Refusal("told(" + bad + ")", Check.BAD, x -> x.told(bad)));
            calls.add(new Refusal("member(0, " + bad + ")", Check.BAD, x -> x.member(0, bad)));
            calls.add(new Refusal("occurrence(0, " + bad + ")", Check.BAD, x -> x.occurrence(0, bad)));
        }
        for (int bad : new int[] {-2, 19, LEAST, MOST}) {
            calls.add(new Refusal("orders(" + bad + ")", Check.BAD, x -> x.orders(bad)));
        }
        calls.add(new Refusal("order(-1, 0)", Check.BAD, x -> x.order(-1, 0)));
        calls.add(new Refusal("order(least, 0)", Check.BAD, x -> x.order(Long.MIN_VALUE, 0)));
    }

    private static void dueIn(String state, Supplier<PhraseReader> made, List<Refusal> calls) {
        String answers = Snapshot.answers(made.get());
        String drained = Snapshot.drained(made.get());
        for (Refusal r : calls) {
            String name = state + ": " + r.call();
            PhraseReader asked = made.get();
            check.same(name + ", asked before", Snapshot.answers(asked), answers);
            check.due(name, r.made().applyAsLong(asked), r.code());
            check.same(name + ", asked again", Snapshot.answers(asked), answers);
            PhraseReader unasked = made.get();
            check.due(name, r.made().applyAsLong(unasked), r.code());
            check.same(name + ", asked then", Snapshot.answers(unasked), answers);
            PhraseReader used = made.get();
            r.made().applyAsLong(used);
            check.same(name + ", undo and back then", Snapshot.drained(used), drained);
        }
    }
}
