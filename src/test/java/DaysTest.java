/** Promises 19 to 21: chains of parts, and days on the square. */
public final class DaysTest {
    private static final Check CHECK = new Check("DaysTest");

    private static void chain(int x, int steps, int end, int perfect) {
        OddFridays street = new OddFridays();
        CHECK.asks(street, "p19 chain(" + x + ", 0)", () -> street.chain(x, 0), steps);
        CHECK.asks(street, "p19 chain(" + x + ", 1)", () -> street.chain(x, 1), end);
        CHECK.asks(street, "p19 chain(" + x + ", 2)", () -> street.chain(x, 2), perfect);
    }

    private static void chains() {
        chain(1, 1, 0, 0);
        chain(2, 2, 0, 0);
        chain(4, 3, 0, 0);
        chain(6, 1, 6, 1);
        chain(28, 1, 28, 1);
        chain(25, 2, 6, 0);
        chain(220, 2, 220, 0);
        chain(284, 2, 284, 0);
        chain(12, 7, 0, 0);
        chain(30, 15, 0, 0);
        chain(138, 11, 10746, 0);
        OddFridays x = new OddFridays();
        CHECK.refused(x, "p19 chain(0, 0)", () -> x.chain(0, 0), -2, 0);
        CHECK.refused(x, "p19 chain(301, 0)", () -> x.chain(301, 0), -2, 0);
        CHECK.refused(x, "p19 chain(1, 3)", () -> x.chain(1, 3), -2, 0);
        CHECK.refused(x, "p19 chain(1, -1)", () -> x.chain(1, -1), -2, 0);
    }

    private static void meet() {
        CHECK.due("p20 nobody", new OddFridays().meet(), 0);
        OddFridays x = Check.streetOf(0, 0, 3, 5, 7);
        CHECK.asks(x, "p20 0 by 3, 1 by 5, 2 by 7", x::meet, 51);
        CHECK.due("p20 house 7 comes on day 7 first", Check.streetOf(0, 0, 1, 1, 0, 0, 0, 0, 0, 7).meet(), 7);
        CHECK.due("p20 alone", Check.streetOf(0, 0, 0, 0, 0, 0, 0, 300).meet(), 5);
        CHECK.due("p20 never", Check.streetOf(0, 0, 2, 2).meet(), -1);
        CHECK.due("p20 shared divisors", Check.streetOf(0, 0, 4, 0, 6).meet(), 8);
        CHECK.due("p20 a late day", Check.streetOf(0, 0, 299, 300).meet(), 299 * 299);
        CHECK.due("p20 the last day", Check.streetOf(0, 0, 271, 2, 277).meet(), 99999);
        CHECK.due("p20 the day behind it", Check.streetOf(0, 0, 125, 9, 0, 277).meet(), -1);
        CHECK.due("p20 far beyond", Check.streetOf(0, 0, 299, 300, 289).meet(), -1);
    }

    private static void next() {
        OddFridays empty = new OddFridays();
        CHECK.asks(empty, "p21 nobody", () -> empty.next(0), -1);
        OddFridays x = Check.streetOf(0, 0, 0, 0, 0, 10, 0, 7);
        CHECK.asks(x, "p21 from day 0", () -> x.next(0), 3);
        CHECK.asks(x, "p21 from day 3", () -> x.next(3), 0);
        CHECK.asks(x, "p21 from day 4", () -> x.next(4), 1);
        CHECK.asks(x, "p21 from day 6", () -> x.next(6), 6);
        CHECK.asks(x, "p21 from day 99999", () -> x.next(99999), 1);
        CHECK.refused(x, "p21 next(-1)", () -> x.next(-1), -2, 0);
        CHECK.refused(x, "p21 next(100000)", () -> x.next(100000), -2, 0);
        CHECK.refused(empty, "p21 BAD ahead of none", () -> empty.next(-1), -2, 0);
        CHECK.due("p21 of house 0", Check.streetOf(0, 0, 10, 0, 0, 300).next(4), 6);
        OddFridays late = Check.streetOf(0, 0, 0, 0, 0, 0, 0, 0, 0, 300);
        CHECK.due("p21 past the last day", late.next(99999), 208);
    }

    public static void main(String[] args) {
        chains();
        meet();
        next();
        CHECK.end();
    }
}
