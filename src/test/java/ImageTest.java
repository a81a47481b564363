/** Promises 22 and 23: keep, back. */
public final class ImageTest {
    private static final Check check = new Check("ImageTest");

    public static void main(String[] args) {
        wrongImages();
        keepAndBack();
        imagesAreCopies();
        emptyImage();
        backIsAChange();
        check.end();
    }

    private static void wrongImages() {
        PhraseReader x = new PhraseReader();
        for (int i : new int[] {-1, 2, Integer.MIN_VALUE, Integer.MAX_VALUE}) {
            check.due("keep(" + i + ")", x.keep(i), Check.BAD);
            check.due("back(" + i + ")", x.back(i), Check.BAD);
        }
        check.due("back(0) of nothing", x.back(0), Check.STATE);
        check.due("back(1) of nothing", x.back(1), Check.STATE);
        check.due("told(5)", x.told(5), 0);
        x.keep(1);
        check.due("back(0): only the other one keeps", x.back(0), Check.STATE);
        check.due("back(1)", x.back(1), 0);
    }

    private static void keepAndBack() {
        PhraseReader x = new PhraseReader();
        Check.declare(x, "abc", 1, 1, 2);
        Check.declare(x, "d", 2, 0, 3);
        x.set(0, 3, 12);
        x.rule(1, 0, 1);
        x.setSeparator(46);
        String first = Check.declared(x);
        int changes = x.told(5);
        check.due("keep(0)", x.keep(0), 2);
        check.due("told(5): keeping is no change", x.told(5), changes);
        x.remove(0);
        x.setSeparator(0);
        String second = Check.declared(x);
        check.due("keep(1)", x.keep(1), 1);
        check.due("back(0)", x.back(0), 2);
        check.same("back(0)", Check.declared(x), first);
        check.due("back(1)", x.back(1), 1);
        check.same("back(1)", Check.declared(x), second);
        check.due("back(0) again: it stays", x.back(0), 2);
        check.same("back(0) again", Check.declared(x), first);
        check.due("keep(1) replaces", x.keep(1), 2);
        x.remove(0);
        check.due("back(1)", x.back(1), 2);
        check.same("back(1) of the new one", Check.declared(x), first);
    }

    private static void imagesAreCopies() {
        PhraseReader x = new PhraseReader();
        Check.declare(x, "a", 0, 0, 1);
        Check.text(x, "a");
        x.keep(0);
        x.set(0, 0, 1);
        x.set(0, 3, 7);
        check.due("readings()", x.readings(), 0);
        x.back(0);
        check.same("back(0)", Check.declared(x), "1 members, separator 0; a 0 0 1 0 before 0");
        check.due("readings() after back", x.readings(), 1);
        check.due("orders(-1) after back", x.orders(-1), 2);
        x.set(0, 2, 3);
        check.due("orders(-1) after set", x.orders(-1), 4);
        x.back(0);
        check.due("orders(-1) after back again", x.orders(-1), 2);
        check.due("told(4): the text stays", x.told(4), 1);
    }

    private static void emptyImage() {
        PhraseReader x = new PhraseReader();
        check.due("keep(0) without members", x.keep(0), 0);
        Check.declare(x, "a", 0, 0, 1);
        x.setSeparator(33);
        check.due("back(0)", x.back(0), 0);
        check.due("told(0)", x.told(0), 0);
        check.due("told(1)", x.told(1), 0);
        check.due("a word of a member that is gone", Check.declare(x, "a", 0, 0, 1), 0);
    }

    private static void backIsAChange() {
        PhraseReader x = new PhraseReader();
        x.keep(0);
        Check.declare(x, "a", 0, 0, 1);
        x.rule(0, 0, 1);
        x.back(0);
        check.due("told(5)", x.told(5), 2);
        check.due("undo()", x.undo(), 1);
        check.due("told(0)", x.told(0), 1);
        for (int i = 0; i < 9; i++) {
            x.back(0);
        }
        check.due("told(5)", x.told(5), 8);
        for (int left = 7; left >= 0; left--) {
            check.due("undo()", x.undo(), left);
        }
        check.due("told(0): the state with a is dropped", x.told(0), 0);
    }
}
