/** Promises 1 to 3: a new object, write, wipe. */
public final class TextTest {
    private static final Check check = new Check("TextTest");

    public static void main(String[] args) {
        newObject();
        write();
        wipe();
        check.end();
    }

    private static void newObject() {
        PhraseReader x = new PhraseReader();
        for (int what = 0; what <= 7; what++) {
            check.due("new: told(" + what + ")", x.told(what), 0);
        }
        check.due("new: undo()", x.undo(), Check.STATE);
        check.due("new: back(0)", x.back(0), Check.STATE);
        check.due("new: back(1)", x.back(1), Check.STATE);
        check.due("new: member(0, 0)", x.member(0, 0), Check.BAD);
        check.due("new: wipe()", x.wipe(), 0);
        check.due("new: readings()", x.readings(), 1);
        check.due("new: orders(-1)", x.orders(-1), 1);
        Check.declare(new PhraseReader(), "a", 0, 0, 1);
        check.due("new: another object shares nothing", x.told(0), 0);
    }

    private static void write() {
        PhraseReader x = new PhraseReader();
        int[] wrong = {31, 127, 0, -1, 128, Integer.MIN_VALUE, Integer.MAX_VALUE, 97 + 256};
        for (int code : wrong) {
            check.due("write(" + code + ")", x.write(code), Check.BAD);
        }
        check.due("told(4) after wrong bytes", x.told(4), 0);
        check.due("write(32)", x.write(32), 1);
        check.due("write(126)", x.write(126), 2);
        for (int length = 3; length <= 60; length++) {
            check.due("write(97), the byte " + length, x.write(97), length);
        }
        check.due("write(97) in a full text", x.write(97), Check.FULL);
        check.due("write(127) in a full text", x.write(127), Check.BAD);
        check.due("told(4) of a full text", x.told(4), 60);
        check.due("told(5): writing is no change", x.told(5), 0);
    }

    private static void wipe() {
        PhraseReader x = new PhraseReader();
        check.due("wipe() of an empty text", x.wipe(), 0);
        Check.text(x, "abc");
        check.due("wipe()", x.wipe(), 3);
        check.due("told(4)", x.told(4), 0);
        check.due("wipe() again", x.wipe(), 0);
        for (int i = 0; i < 60; i++) {
            x.write(98);
        }
        check.due("wipe() of 60 bytes", x.wipe(), 60);
        check.due("write after wipe", x.write(98), 1);
        check.due("the wiped bytes are gone", x.declare(0, 0, 1), 0);
        check.due("member(0, 6)", x.member(0, 6), Check.NONE);
        check.due("told(5): wiping is no change", x.told(5), 1);
    }
}
