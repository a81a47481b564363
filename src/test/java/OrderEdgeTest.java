/** Promises 19 to 21 at their edges. */
public final class OrderEdgeTest {
    private static final Check check = new Check("OrderEdgeTest");
    private static final int MOST = Integer.MAX_VALUE;

    public static void main(String[] args) {
        ordersOfEachLength();
        ordersOfLengthZero();
        ordersOfLengthEighteen();
        allOrdersAreTheirSum();
        firstAndLastOrder();
        theEmptyOrder();
        aBeginningComesBefore();
        leastAndGreatestLong();
        numbersBeyondTheInts();
        lastMemberOfAnOrder();
        noOrderAtAll();
        rulesAtTheEnds();
        rankOfTheFirstAndTheLast();
        rankWithoutReading();
        check.end();
    }

    /** From one less than the least length to one more than the greatest one. */
    private static void ordersOfEachLength() {
        for (int least = 0; least <= 3; least++) {
            for (int most = Math.max(1, least); most <= 3; most++) {
                PhraseReader x = States.letters(1, least, most);
                for (int length = 0; length <= 18; length++) {
                    check.due("orders(" + length + ") of " + least + " to " + most, x.orders(length),
                            length >= least && length <= most ? 1 : 0);
                }
                check.due("orders(-1) of " + least + " to " + most, x.orders(-1), most - least + 1);
            }
        }
        PhraseReader x = States.letters(2, 1, 2);
        // ab, ba; aab, aba, baa, abb, bab, bba; aabb and the five others
        long[] dues = {0, 0, 2, 6, 6, 0, 0};
        for (int length = 0; length < dues.length; length++) {
            check.due("orders(" + length + ") of two", x.orders(length), dues[length]);
        }
        check.due("orders(-1) of two", x.orders(-1), 14);
    }

    private static void ordersOfLengthZero() {
        for (int members = 0; members <= 6; members++) {
            check.due("orders(0), none has to occur", States.letters(members, 0, 3).orders(0), 1);
            check.due("orders(0), each has to occur", States.letters(members, 1, 3).orders(0), members == 0 ? 1 : 0);
        }
        PhraseReader x = States.letters(6, 0, 1);
        x.set(5, 1, 1);
        check.due("orders(0), one has to occur", x.orders(0), 0);
        check.due("orders(1), one has to occur", x.orders(1), 1);
    }

    /** 18! / (3!)^6 orders of length 18, if each of six may occur three times. */
    private static void ordersOfLengthEighteen() {
        PhraseReader x = States.letters(6, 0, 3);
        check.due("orders(18) of six", x.orders(18), 137225088000L);
        check.due("orders(17) of six", x.orders(17), 137225088000L);
        x.set(5, 2, 2);
        check.due("orders(18) with one less", x.orders(18), 0);
        check.due("orders(17) with one less", x.orders(17), 137225088000L * 3 / 18);
        check.due("orders(18) of five", States.letters(5, 3, 3).orders(18), 0);
        check.due("orders(15) of five", States.letters(5, 3, 3).orders(15), 168168000);
    }

    /** "or -1 for all orders" */
    private static void allOrdersAreTheirSum() {
        for (int members = 0; members <= 6; members++) {
            PhraseReader x = States.letters(members, 0, 3);
            if (members > 1) {
                x.rule(0, members - 1, 1);
            }
            long sum = 0;
            for (int length = 0; length <= 18; length++) {
                sum += x.orders(length);
            }
            check.due("orders(-1) of " + members, x.orders(-1), sum);
        }
    }

    /** "NONE if there are not so many orders": the last number, and the one behind it. */
    private static void firstAndLastOrder() {
        for (int members = 1; members <= 6; members++) {
            PhraseReader x = States.letters(members, 1, 2);
            long orders = x.orders(-1);
            check.same("the first order", Check.order(x, 0), "00112233445".substring(0, 2 * members - 1));
            StringBuilder last = new StringBuilder();
            for (int m = members - 1; m >= 0; m--) {
                last.append(m).append(m);
            }
            check.same("the last order", Check.order(x, orders - 1), last.toString());
            check.due("the order behind it", x.order(orders, 0), Check.NONE);
            check.due("order(greatest, 0)", x.order(Long.MAX_VALUE, 0), Check.NONE);
        }
    }

    private static void theEmptyOrder() {
        check.due("order(0, 0) of no members", new PhraseReader().order(0, 0), Check.NONE);
        check.due("order(1, 0) of no members", new PhraseReader().order(1, 0), Check.NONE);
        PhraseReader x = States.letters(2, 0, 1);
        check.due("order(0, 0): it is empty", x.order(0, 0), Check.NONE);
        check.due("order(1, 0)", x.order(1, 0), 0);
        x.set(1, 1, 1);
        check.due("order(0, 0): it is not", x.order(0, 0), 0);
        check.due("order(0, 1)", x.order(0, 1), 1);
        check.due("order(1, 0)", x.order(1, 0), 1);
        check.due("order(1, 1)", x.order(1, 1), Check.NONE);
    }

    /** "an order that is the beginning of another one comes before it" */
    private static void aBeginningComesBefore() {
        PhraseReader x = States.letters(2, 0, 2);
        String[] dues = {"", "0", "00", "001", "0011", "01", "010", "0101", "011", "0110", "1", "10", "100", "1001",
            "101", "1010", "11", "110", "1100", ""};
        for (int n = 0; n < dues.length; n++) {
            check.same("order(" + n + ", ..)", Check.order(x, n), dues[n]);
        }
        check.due("orders(-1)", x.orders(-1), 19);
    }

    /** "BAD if n or k is negative"; "NONE if there are not so many orders" */
    private static void leastAndGreatestLong() {
        PhraseReader x = States.letters(2, 0, 2);
        for (long n : new long[] {Long.MIN_VALUE, Long.MIN_VALUE + 1, Integer.MIN_VALUE, -1}) {
            check.due("order(" + n + ", 0)", x.order(n, 0), Check.BAD);
        }
        long[] great = {19, 20, MOST, MOST + 1L, (1L << 32) + 1, (1L << 33) + 1, Long.MAX_VALUE - 1, Long.MAX_VALUE};
        for (long n : great) {
            check.due("order(" + n + ", 0)", x.order(n, 0), Check.NONE);
            check.due("order(" + n + ", greatest)", x.order(n, MOST), Check.NONE);
        }
        check.due("order(18, 0)", x.order(18, 0), 1);
        check.due("order(18, least)", x.order(18, Integer.MIN_VALUE), Check.BAD);
        check.due("order(18, -1)", x.order(18, -1), Check.BAD);
    }

    /** An order of a great number, written as a text, has this number as its rank. */
    private static void numbersBeyondTheInts() {
        long all = States.letters(6, 0, 3).orders(-1);
        long[] numbers = {0, 1, MOST - 1L, MOST, MOST + 1L, (1L << 32) - 1, 1L << 32, (1L << 32) + 1, all / 2, all - 2,
            all - 1};
        for (long n : numbers) {
            PhraseReader x = States.letters(6, 0, 3);
            String order = Check.order(x, n);
            x.wipe();
            for (char m : order.toCharArray()) {
                x.write(m - '0' + 'a');
            }
            check.due("rank() of order " + n, x.rank(), n);
            check.same("its reading", Check.reading(x), order);
        }
        check.due("order(all, 0)", States.letters(6, 0, 3).order(all, 0), Check.NONE);
    }

    /** "or it has not so many members": the last index, the one behind it, the greatest int. */
    private static void lastMemberOfAnOrder() {
        PhraseReader x = States.letters(6, 3, 3);
        check.due("order(0, 17)", x.order(0, 17), 5);
        check.due("order(0, 18)", x.order(0, 18), Check.NONE);
        check.due("order(0, 19)", x.order(0, 19), Check.NONE);
        check.due("order(0, greatest)", x.order(0, MOST), Check.NONE);
        PhraseReader y = States.letters(3, 1, 1);
        for (int n = 0; n < 6; n++) {
            check.due("order(" + n + ", 0)", y.order(n, 0), n / 2);
            check.due("order(" + n + ", 2)", y.order(n, 2), new int[] {2, 1, 2, 0, 1, 0}[n]);
            check.due("order(" + n + ", 3)", y.order(n, 3), Check.NONE);
            check.due("order(" + n + ", greatest)", y.order(n, MOST), Check.NONE);
        }
    }

    /** Two members that must both occur and each come before the other one. */
    private static void noOrderAtAll() {
        PhraseReader x = States.letters(2, 1, 3);
        x.rule(0, 1, 1);
        x.rule(1, 0, 1);
        for (int length = -1; length <= 18; length++) {
            check.due("orders(" + length + ")", x.orders(length), 0);
        }
        check.due("order(0, 0)", x.order(0, 0), Check.NONE);
        check.due("told(6): counted without the rules", x.told(6), 2);
        check.due("told(7): counted without the rules", x.told(7), 6);
        x.write('a');
        check.due("fault(): it is a beginning", x.fault(), 1);
        check.due("rank()", x.rank(), Check.STATE);
        x.set(1, 1, 0);
        check.due("orders(-1) if one may be missing", x.orders(-1), 3);
        check.due("rank() then", x.rank(), 0);
    }

    /** Six members that stand in one order alone, by 15 rules. */
    private static void rulesAtTheEnds() {
        PhraseReader x = States.letters(6, 1, 3);
        for (int a = 0; a < 6; a++) {
            for (int b = a + 1; b < 6; b++) {
                x.rule(a, b, 1);
            }
        }
        check.due("orders(6)", x.orders(6), 1);
        check.due("orders(18)", x.orders(18), 1);
        check.due("orders(-1)", x.orders(-1), 729);
        check.same("order(0, ..)", Check.order(x, 0), "0001112223334445");
        check.same("order(728, ..)", Check.order(x, 728), "01234555");
        check.same("order(729, ..)", Check.order(x, 729), "");
    }

    private static void rankOfTheFirstAndTheLast() {
        PhraseReader x = States.letters(6, 0, 1);
        check.due("rank() of the empty text", x.rank(), 0);
        long orders = x.orders(-1);
        check.due("orders(-1)", orders, 1957);
        Check.text(x, "fedcba");
        check.due("rank() of the last one", x.rank(), orders - 1);
        Check.text(x, "fedcb");
        check.due("rank() of the one before it", x.rank(), orders - 2);
        Check.text(x, "a");
        check.due("rank() of a", x.rank(), 1);
        check.due("rank() of no members", new PhraseReader().rank(), 0);
    }

    /** "STATE if the text has no reading" */
    private static void rankWithoutReading() {
        for (String text : new String[] {"", "a", "b,", "b,b", "ab1", "b, ", States.SIX_FULL.substring(0, 59) + "a"}) {
            check.due("rank() of <" + text + ">", States.six(text).rank(), Check.STATE);
        }
        check.due("rank() of a reading", States.six("b").rank() >= 0 ? 1 : 0, 1);
    }
}
