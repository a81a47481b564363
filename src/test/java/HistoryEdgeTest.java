import java.util.function.Consumer;

/** Promises 10, 22 and 23 at their edges: a history of at most 8 states, and the two images. */
public final class HistoryEdgeTest {
    private record Step(String call, Consumer<PhraseReader> made) {
    }

    private static final Check check = new Check("HistoryEdgeTest");
    private static final Step[] CHANGES = {
        new Step("declare", x -> x.declare(1, 1, 2)), new Step("remove", x -> x.remove(0)),
        new Step("set kind", x -> x.set(1, 0, 2)), new Step("set least", x -> x.set(1, 1, 1)),
        new Step("set greatest", x -> x.set(1, 2, 3)), new Step("set default", x -> x.set(1, 3, 999)),
        new Step("move", x -> x.move(0, 2)), new Step("setSeparator", x -> x.setSeparator(47)),
        new Step("rule on", x -> x.rule(1, 0, 1)), new Step("rule off", x -> x.rule(0, 1, 0)),
        new Step("back", x -> x.back(0)), new Step("set to the same", x -> x.set(1, 3, 4)),
        new Step("move to the same", x -> x.move(1, 1)), new Step("setSeparator to the same", x -> x.setSeparator(44)),
        new Step("rule that is there", x -> x.rule(0, 1, 1)), new Step("rule that is not there", x -> x.rule(2, 1, 0))};
    private static final Step[] NO_CHANGES = {
        new Step("write", x -> x.write(97)), new Step("wipe", x -> x.wipe()), new Step("told", x -> x.told(5)),
        new Step("member", x -> x.member(0, 0)), new Step("fault", x -> x.fault()),
        new Step("readings", x -> x.readings()), new Step("occurrence", x -> x.occurrence(0, 0)),
        new Step("value", x -> x.value(0, 0)), new Step("next", x -> x.next()), new Step("normal", x -> x.normal(0)),
        new Step("orders", x -> x.orders(-1)), new Step("order", x -> x.order(0, 0)), new Step("rank", x -> x.rank()),
        new Step("keep", x -> x.keep(1)), new Step("write refused", x -> x.write(31)),
        new Step("declare refused", x -> x.declare(0, 2, 1)), new Step("remove refused", x -> x.remove(3)),
        new Step("set refused", x -> x.set(0, 4, 0)), new Step("move refused", x -> x.move(0, 3)),
        new Step("setSeparator refused", x -> x.setSeparator(48)), new Step("rule refused", x -> x.rule(0, 0, 1)),
        new Step("keep refused", x -> x.keep(2)), new Step("back refused", x -> x.back(2))};

    public static void main(String[] args) {
        emptyHistory();
        fromNoneToTwelve();
        eachChangeIsRecorded();
        nothingElseIsRecorded();
        undoRestoresAll();
        undoIsNoChange();
        changesAfterUndo();
        textIsNoPartOfAState();
        imagesAreNoPartOfAState();
        imageThatKeepsNothing();
        imageOfNoMembers();
        twoImages();
        imageStays();
        backWithFullHistory();
        check.end();
    }

    /** Three members, a separator and a rule after so many changes; image 0 keeps another state. */
    private static PhraseReader after(int changes) {
        PhraseReader x = new PhraseReader();
        Check.declare(x, "p", 2, 1, 3);
        x.setSeparator(40);
        x.keep(0);
        while (x.told(5) > 0) {
            x.undo();
        }
        Check.declare(x, "a", 0, 0, 1);
        Check.declare(x, "b", 1, 0, 2);
        Check.declare(x, "c", 2, 1, 1);
        x.rule(0, 1, 1);
        x.setSeparator(44);
        x.set(1, 3, 4);
        x.keep(1);
        while (x.told(5) > 0) {
            x.undo();
        }
        if (changes > 0) {
            x.back(1);
        }
        for (int i = 1; i < changes; i++) {
            x.move(0, 0);
        }
        return x;
    }

    /** "nothing can be undone"; "STATE if there is none" */
    private static void emptyHistory() {
        PhraseReader x = new PhraseReader();
        check.due("told(5) at first", x.told(5), 0);
        check.due("undo() at first", x.undo(), Check.STATE);
        check.due("told(5) then", x.told(5), 0);
        x.setSeparator(33);
        check.due("undo() of the only change", x.undo(), 0);
        check.due("undo() again", x.undo(), Check.STATE);
        check.due("told(1) then", x.told(1), 0);
        x.setSeparator(34);
        check.due("told(5) after a new change", x.told(5), 1);
        check.due("undo() of it", x.undo(), 0);
    }

    /** "A history of at most 8 states is kept"; "if there are more than 8, the oldest one is dropped" */
    private static void fromNoneToTwelve() {
        for (int changes = 0; changes <= 12; changes++) {
            PhraseReader x = States.one();
            x.undo();
            for (int i = 1; i <= changes; i++) {
                check.due("setSeparator, change " + i, x.setSeparator(32 + i), i == 1 ? 0 : 31 + i);
                check.due("told(5) after " + i, x.told(5), Math.min(i, 8));
            }
            int kept = Math.min(changes, 8);
            for (int undone = 1; undone <= kept; undone++) {
                check.due("undo() " + undone + " of " + changes, x.undo(), kept - undone);
                check.due("told(5) then", x.told(5), kept - undone);
                int left = changes - undone;
                check.due("told(1) then", x.told(1), left == 0 ? 0 : 32 + left);
            }
            int oldest = x.told(1);
            check.due("undo() of no more", x.undo(), Check.STATE);
            check.due("told(1) then", x.told(1), oldest);
        }
    }

    /** "a change that returns no error code records the members, the separator and the rules before it" */
    private static void eachChangeIsRecorded() {
        for (Step s : CHANGES) {
            for (int changes : new int[] {1, 2, 7, 8, 9, 10}) {
                PhraseReader x = after(changes);
                Check.text(x, "q");
                String before = Check.declared(x);
                int kept = Math.min(changes, 8);
                check.due("told(5) after " + changes, x.told(5), kept);
                s.made().accept(x);
                check.due("told(5) after " + s.call(), x.told(5), Math.min(kept + 1, 8));
                check.due("undo() of " + s.call(), x.undo(), Math.min(kept, 7));
                check.same("undo() of " + s.call(), Check.declared(x), before);
            }
        }
    }

    private static void nothingElseIsRecorded() {
        for (Step s : NO_CHANGES) {
            for (int changes : new int[] {1, 7, 8, 9}) {
                PhraseReader x = after(changes);
                int before = x.told(5);
                String declared = Check.declared(x);
                s.made().accept(x);
                check.due("told(5) after " + s.call(), x.told(5), before);
                check.same(s.call(), Check.declared(x), declared);
            }
        }
    }

    /** "undo() removes the latest state and restores it": members, words, properties, separator, rules. */
    private static void undoRestoresAll() {
        PhraseReader x = new PhraseReader();
        Check.declare(x, "a", 0, 0, 1);
        Check.declare(x, "bcd", 1, 2, 3);
        Check.declare(x, "ef", 2, 1, 2);
        x.setSeparator(46);
        x.set(1, 3, 345);
        x.rule(2, 0, 1);
        String before = Check.declared(x);
        check.due("remove(1)", x.remove(1), 2);
        check.due("undo() of remove", x.undo(), 6);
        check.same("undo() of remove", Check.declared(x), before);
        x.move(0, 2);
        x.set(0, 0, 0);
        x.undo();
        x.undo();
        check.same("undo() of two", Check.declared(x), before);
        x.rule(0, 1, 1);
        x.remove(0);
        x.undo();
        check.due("the rules of a removed member come again", x.told(2), 2);
        check.due("member(0, 8)", x.member(0, 8), 2);
        check.due("member(2, 8)", x.member(2, 8), 1);
    }

    /** undo() itself is not among the changes: it can't be undone. */
    private static void undoIsNoChange() {
        PhraseReader x = new PhraseReader();
        x.setSeparator(33);
        x.setSeparator(34);
        x.setSeparator(35);
        int[] left = {2, 1, 0, Check.STATE};
        int[] separators = {34, 33, 0, 0};
        for (int i = 0; i < 4; i++) {
            check.due("undo() " + i, x.undo(), left[i]);
            check.due("told(1) then", x.told(1), separators[i]);
        }
    }

    /** A change after undo() is recorded behind what is left; what was undone is gone. */
    private static void changesAfterUndo() {
        PhraseReader x = new PhraseReader();
        for (int code = 33; code <= 42; code++) {
            x.setSeparator(code);
        }
        check.due("undo() of a full history", x.undo(), 7);
        check.due("undo()", x.undo(), 6);
        x.setSeparator(47);
        check.due("told(5)", x.told(5), 7);
        x.setSeparator(46);
        check.due("told(5)", x.told(5), 8);
        x.setSeparator(45);
        check.due("told(5), one more than full", x.told(5), 8);
        int[] due = {46, 47, 40, 39, 38, 37, 36, 35};
        for (int i = 0; i < 8; i++) {
            check.due("undo()", x.undo(), 7 - i);
            check.due("told(1)", x.told(1), due[i]);
        }
        check.due("undo() of what was dropped", x.undo(), Check.STATE);
        check.due("told(1)", x.told(1), 35);
    }

    /** "The text and the images do not belong to a state." */
    private static void textIsNoPartOfAState() {
        PhraseReader x = new PhraseReader();
        x.write('a');
        x.declare(0, 0, 1);
        check.due("told(4): declare leaves the text", x.told(4), 1);
        x.write('b');
        check.due("undo()", x.undo(), 0);
        check.due("told(4): undo leaves the text", x.told(4), 2);
        check.due("declare of the text", x.declare(0, 0, 1), 0);
        check.due("member(0, 6)", x.member(0, 6), 'b');
        x.wipe();
        x.undo();
        check.due("told(4): an empty text stays empty", x.told(4), 0);
        Check.text(x, "a".repeat(60));
        x.setSeparator(33);
        x.undo();
        check.due("told(4): a full text stays full", x.told(4), 60);
        check.due("write", x.write('a'), Check.FULL);
    }

    private static void imagesAreNoPartOfAState() {
        PhraseReader x = States.one();
        x.setSeparator(33);
        x.keep(0);
        x.undo();
        x.undo();
        check.due("told(0)", x.told(0), 0);
        x.keep(1);
        check.due("back(0): undo leaves the images", x.back(0), 1);
        check.due("told(1)", x.told(1), 33);
        x.undo();
        check.due("told(0) after undo of back", x.told(0), 0);
        check.due("back(0) again: undo of back leaves them too", x.back(0), 1);
        check.due("back(1)", x.back(1), 0);
    }

    /** "the images keep nothing" at first; "STATE if it keeps nothing" */
    private static void imageThatKeepsNothing() {
        for (int i = 0; i <= 1; i++) {
            PhraseReader x = States.six(States.SIX_READ);
            String before = Snapshot.answers(x);
            check.due("back(" + i + ")", x.back(i), Check.STATE);
            check.same("back(" + i + ")", Snapshot.answers(x), before);
            check.due("keep of the other one", x.keep(1 - i), 6);
            check.due("back(" + i + ") still", x.back(i), Check.STATE);
            check.due("keep(" + i + ")", x.keep(i), 6);
            check.due("back(" + i + ") then", x.back(i), 6);
        }
    }

    /** An image of no members keeps something: "Returns the number of members". */
    private static void imageOfNoMembers() {
        PhraseReader x = new PhraseReader();
        check.due("keep(0)", x.keep(0), 0);
        check.due("back(0) at once", x.back(0), 0);
        check.due("told(5): a change", x.told(5), 1);
        Check.declare(x, "a", 0, 0, 1);
        x.setSeparator(33);
        check.due("back(0)", x.back(0), 0);
        check.due("told(1)", x.told(1), 0);
        check.due("undo()", x.undo(), 3);
        check.due("told(0)", x.told(0), 1);
        check.due("told(1)", x.told(1), 33);
    }

    private static void twoImages() {
        PhraseReader x = States.six();
        String first = Check.declared(x);
        check.due("keep(0)", x.keep(0), 6);
        x.remove(0);
        x.move(0, 4);
        x.rule(3, 1, 1);
        String second = Check.declared(x);
        check.due("keep(1)", x.keep(1), 5);
        x.remove(4);
        check.due("back(0)", x.back(0), 6);
        check.same("back(0)", Check.declared(x), first);
        check.due("back(1)", x.back(1), 5);
        check.same("back(1)", Check.declared(x), second);
    }

    /** "replacing what it kept before"; "the image stays", whatever is changed behind keep or back. */
    private static void imageStays() {
        PhraseReader x = States.one();
        x.keep(0);
        x.set(0, 3, 9);
        x.back(0);
        check.due("member(0, 3) after back", x.member(0, 3), 0);
        x.set(0, 3, 8);
        x.rule(0, 0, 1);
        Check.declare(x, "b", 0, 0, 1);
        check.due("back(0) again", x.back(0), 1);
        check.due("member(0, 3) after back again", x.member(0, 3), 0);
        x.set(0, 3, 7);
        check.due("keep(0) replaces", x.keep(0), 1);
        x.remove(0);
        check.due("back(0) of the new one", x.back(0), 1);
        check.due("member(0, 3) of the new one", x.member(0, 3), 7);
        x.undo();
        check.due("told(0) after undo", x.told(0), 0);
        check.due("keep(0) of no members replaces too", x.keep(0), 0);
        check.due("back(0)", x.back(0), 0);
    }

    private static void backWithFullHistory() {
        PhraseReader x = States.six();
        x.keep(1);
        check.due("told(5)", x.told(5), 8);
        check.due("back(1)", x.back(1), 6);
        check.due("told(5) is as great as it can be", x.told(5), 8);
        check.due("undo()", x.undo(), 7);
    }
}
