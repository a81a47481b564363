/** Promises 19 to 21: orders, order, rank. */
public final class OrderTest {
    private static final Check check = new Check("OrderTest");

    public static void main(String[] args) {
        ordersOfNone();
        ordersByLength();
        orderList();
        ordersUnderRules();
        rulesAreNotPassedOn();
        greatestTables();
        rank();
        rankIsOfTheFirstReading();
        check.end();
    }

    private static void ordersOfNone() {
        PhraseReader x = new PhraseReader();
        check.due("orders(-1)", x.orders(-1), 1);
        check.due("orders(0)", x.orders(0), 1);
        check.due("orders(1)", x.orders(1), 0);
        check.due("orders(18)", x.orders(18), 0);
        for (int length : new int[] {-2, 19, Integer.MIN_VALUE, Integer.MAX_VALUE}) {
            check.due("orders(" + length + ")", x.orders(length), Check.BAD);
        }
        check.due("order(0, 0): the empty order", x.order(0, 0), Check.NONE);
        check.due("order(1, 0)", x.order(1, 0), Check.NONE);
    }

    private static void ordersByLength() {
        PhraseReader x = new PhraseReader();
        Check.declare(x, "a", 0, 1, 2);
        Check.declare(x, "b", 1, 0, 1);
        // a, aa, aab, ab, aba, ba, baa
        long[] dues = {0, 1, 3, 3, 0};
        for (int length = 0; length < dues.length; length++) {
            check.due("orders(" + length + ")", x.orders(length), dues[length]);
        }
        check.due("orders(-1)", x.orders(-1), 7);
        x.set(1, 2, 2);
        check.due("orders(3) after a change", x.orders(3), 6);
        x.undo();
        check.due("orders(3) after undo", x.orders(3), 3);
    }

    private static void orderList() {
        PhraseReader x = new PhraseReader();
        Check.declare(x, "a", 0, 1, 2);
        Check.declare(x, "b", 1, 0, 1);
        String[] dues = {"0", "00", "001", "01", "010", "10", "100", ""};
        for (int n = 0; n < dues.length; n++) {
            check.same("order(" + n + ", ..)", Check.order(x, n), dues[n]);
        }
        check.due("order(-1, 0)", x.order(-1, 0), Check.BAD);
        check.due("order(0, -1)", x.order(0, -1), Check.BAD);
        check.due("order(7, -1)", x.order(7, -1), Check.BAD);
        check.due("order(least, least)", x.order(Long.MIN_VALUE, Integer.MIN_VALUE), Check.BAD);
        check.due("order(greatest, 0)", x.order(Long.MAX_VALUE, 0), Check.NONE);
        check.due("order(0, greatest)", x.order(0, Integer.MAX_VALUE), Check.NONE);
        check.due("order(1 << 32, 0)", x.order(1L << 32, 0), Check.NONE);
    }

    private static void ordersUnderRules() {
        PhraseReader x = new PhraseReader();
        Check.declare(x, "a", 0, 0, 2);
        Check.declare(x, "b", 0, 0, 1);
        Check.declare(x, "c", 0, 1, 1);
        x.rule(2, 0, 1);
        // b c, b c a, b c a a, c, c a, c a a, c a a b, c a b, c a b a, c b, c b a, c b a a
        String[] dues = {"12", "120", "1200", "2", "20", "200", "2001", "201", "2010", "21", "210", "2100", ""};
        for (int n = 0; n < dues.length; n++) {
            check.same("order(" + n + ", ..)", Check.order(x, n), dues[n]);
        }
        check.due("orders(-1)", x.orders(-1), 12);
        check.due("orders(2)", x.orders(2), 3);
        x.rule(0, 2, 1);
        check.due("orders(-1) with rules both ways", x.orders(-1), 3);
        check.same("order(2, ..)", Check.order(x, 2), "21");
        x.set(0, 1, 1);
        check.due("orders(-1) if none is possible", x.orders(-1), 0);
        check.due("order(0, 0) if none is possible", x.order(0, 0), Check.NONE);
    }

    /** a before b and b before c says nothing about c and a where there is no b. */
    private static void rulesAreNotPassedOn() {
        PhraseReader x = new PhraseReader();
        Check.declare(x, "a", 0, 0, 1);
        Check.declare(x, "b", 0, 0, 1);
        Check.declare(x, "c", 0, 0, 1);
        x.rule(0, 1, 1);
        x.rule(1, 2, 1);
        String[] dues = {"", "0", "01", "012", "02", "1", "12", "2", "20", ""};
        for (int n = 0; n < dues.length; n++) {
            check.same("order(" + n + ", ..)", Check.order(x, n), dues[n]);
        }
        check.due("orders(-1)", x.orders(-1), 9);
        Check.text(x, "ca");
        check.due("readings() of ca", x.readings(), 1);
        check.due("rank() of ca", x.rank(), 8);
    }

    /** Six members three times each: 18! / 6 ^ 6 orders of 18. */
    private static void greatestTables() {
        PhraseReader x = new PhraseReader();
        for (char c = 'a'; c <= 'f'; c++) {
            Check.declare(x, String.valueOf(c), 0, 3, 3);
        }
        long all = 137225088000L;
        check.due("orders(18)", x.orders(18), all);
        check.due("orders(17)", x.orders(17), 0);
        check.due("orders(-1)", x.orders(-1), all);
        check.same("order(0, ..)", Check.order(x, 0), "000111222333444555");
        check.same("the last order", Check.order(x, all - 1), "555444333222111000");
        check.due("behind the last order", x.order(all, 0), Check.NONE);
        check.due("order(0, 18)", x.order(0, 18), Check.NONE);
        Check.text(x, "fffeeedddcccbbbaaa");
        check.due("rank() of the last one", x.rank(), all - 1);
        Check.text(x, "fffeeedddcccbbbaa");
        check.due("rank() of no phrase", x.rank(), Check.STATE);
        for (int m = 0; m < 6; m++) {
            x.set(m, 1, 0);
        }
        check.due("orders(0)", x.orders(0), 1);
        check.due("orders(1)", x.orders(1), 6);
        check.due("orders(2)", x.orders(2), 36);
        check.due("orders(4)", x.orders(4), 1290);
        check.due("orders(18)", x.orders(18), all);
        long sum = 0;
        for (int length = 0; length <= 18; length++) {
            sum += x.orders(length);
        }
        check.due("orders(-1) is their sum", x.orders(-1), sum);
    }

    private static void rank() {
        PhraseReader none = new PhraseReader();
        check.due("rank() of the empty text without members", none.rank(), 0);
        none.write('a');
        check.due("rank() without a reading", none.rank(), Check.STATE);
        long orders = threeKinds().orders(-1);
        for (long n = 0; n < orders; n++) {
            PhraseReader x = threeKinds();
            String order = Check.order(x, n);
            Check.text(x, phrase(order));
            check.due("rank() of order " + n + " (" + order + ")", x.rank(), n);
        }
    }

    private static PhraseReader threeKinds() {
        PhraseReader x = new PhraseReader();
        Check.declare(x, "a", 1, 0, 2);
        Check.declare(x, "b", 2, 0, 2);
        Check.declare(x, "c", 0, 1, 1);
        x.setSeparator(33);
        x.rule(1, 0, 1);
        return x;
    }

    private static String phrase(String order) {
        String[] occurrences = {"a05", "bQ", "c"};
        StringBuilder text = new StringBuilder();
        for (char m : order.toCharArray()) {
            if (text.length() > 0) {
                text.append('!');
            }
            text.append(occurrences[m - '0']);
        }
        return text.toString();
    }

    private static void rankIsOfTheFirstReading() {
        PhraseReader x = new PhraseReader();
        Check.declare(x, "aa", 0, 0, 1);
        Check.declare(x, "a", 0, 0, 2);
        // "", 0, 01, 011, 1, 10, 101, 11, 110
        Check.text(x, "aa");
        check.due("rank() of aa", x.rank(), 1);
        Check.text(x, "aaa");
        check.due("rank() of aaa", x.rank(), 2);
        x.move(0, 1);
        // "", 0, 00, 001, 01, 010, 1, 10, 100
        check.due("rank() of aaa after move", x.rank(), 4);
    }
}
