/** Promises 13 to 18: quarrels, and what peace costs. */
public final class PeaceTest {
    private static final Check CHECK = new Check("PeaceTest");

    private static void quarrels() {
        OddFridays x = Check.streetOf(0, 0, 2, 4, 8, 0, 3, 9, 10, 5);
        CHECK.asks(x, "p13 houses", () -> x.quarrels(0), 0b11110111);
        CHECK.asks(x, "p13 pairs", () -> x.quarrels(1), 4);
        CHECK.refused(x, "p13 quarrels(2)", () -> x.quarrels(2), -2, 0);
        CHECK.refused(x, "p13 quarrels(-1)", () -> x.quarrels(-1), -2, 0);
        OddFridays full = Check.streetOf(0, 0, 1, 2, 1, 2, 1, 2, 1, 2);
        CHECK.due("p13 all houses", full.quarrels(0), 255);
        CHECK.due("p13 all pairs", full.quarrels(1), 7);
        CHECK.due("p13 nobody", new OddFridays().quarrels(0), 0);
        CHECK.due("p13 no pair", new OddFridays().quarrels(1), 0);
    }

    private static void away() {
        OddFridays x = Check.streetOf(0, 0, 2, 4, 8, 0, 3, 9, 10, 5);
        CHECK.asks(x, "p14 one of each knot", x::away, 0b01010010);
        CHECK.due("p14 all pairs", Check.streetOf(0, 0, 1, 2, 1, 2, 1, 2, 1, 2).away(), 0b01010101);
        CHECK.due("p14 the least of like ones", Check.streetOf(0, 0, 1, 2).away(), 1);
        CHECK.due("p14 the middle one", Check.streetOf(0, 0, 4, 2, 8).away(), 2);
        CHECK.due("p14 an empty street", new OddFridays().away(), 0);
        CHECK.due("p14 peace", Check.streetOf(0, 0, 2, 3, 2, 3).away(), 0);
    }

    private static void orders() {
        OddFridays x = Check.streetOf(0, 0, 4, 2, 0, 3, 0, 0, 0, 6);
        CHECK.asks(x, "p15 how many", () -> x.orders(-1), 12);
        long[] first = {4, 3, 0, 2, 0, 0, 0, 6};
        for (int h = 0; h < 8; h++) {
            int house = h;
            CHECK.asks(x, "p15 first " + h, () -> x.orders(house), first[h]);
        }
        CHECK.refused(x, "p15 orders(8)", () -> x.orders(8), -10, 0);
        CHECK.refused(x, "p15 orders(-2)", () -> x.orders(-2), -10, 0);
        OddFridays like = Check.streetOf(0, 0, 5, 5, 5, 5, 5, 5, 5, 5);
        CHECK.due("p15 like ones count apart", like.orders(-1), 40320);
        OddFridays turn = Check.streetOf(0, 0, 3, 2, 4);
        CHECK.due("p15 3 in the middle", turn.orders(-1), 2);
        CHECK.due("p15 not the first that fits house 0 alone", turn.orders(0), 2);
        CHECK.due("p15 then 3", turn.orders(1), 3);
        CHECK.due("p15 then 4", turn.orders(2), 4);
        OddFridays none = Check.streetOf(0, 0, 1, 2, 0, 0);
        CHECK.due("p15 none", none.orders(-1), 0);
        CHECK.due("p15 no first", none.orders(0), -1);
        CHECK.due("p15 no first in an empty house", none.orders(2), -1);
        OddFridays empty = new OddFridays();
        CHECK.due("p15 nobody", empty.orders(-1), 1);
        CHECK.due("p15 nobody in 7", empty.orders(7), 0);
    }

    private static void moved() {
        OddFridays x = Check.streetOf(0, 0, 4, 2, 0, 3, 0, 0, 0, 6);
        CHECK.asks(x, "p16 two change", x::moved, 2);
        CHECK.due("p16 peace already", Check.streetOf(0, 0, 4, 3).moved(), 0);
        CHECK.due("p16 none", Check.streetOf(0, 0, 4, 2).moved(), -1);
        CHECK.due("p16 nobody", new OddFridays().moved(), 0);
        CHECK.due("p16 six of eight", Check.streetOf(3, 9, 220, 284, 16, 25, 7, 49, 6, 300).moved(), 6);
    }

    private static void longest() {
        OddFridays x = Check.streetOf(0, 0, 2, 4, 8, 3, 9, 27);
        CHECK.asks(x, "p17 twos and threes by turns", x::longest, 6);
        CHECK.due("p17 1 stands alone", Check.streetOf(0, 0, 1, 0, 0, 2, 4).longest(), 1);
        CHECK.due("p17 like ones divide", Check.streetOf(0, 0, 5, 5, 5, 7).longest(), 3);
        CHECK.due("p17 two behind a turn", Check.streetOf(0, 0, 2, 4, 8, 16, 3).longest(), 3);
        CHECK.due("p17 whatever the law", Check.streetOf(2, 0, 3, 5, 7, 11).longest(), 4);
        CHECK.due("p17 one", Check.streetOf(0, 0, 12).longest(), 1);
        CHECK.due("p17 nobody", new OddFridays().longest(), 0);
    }

    private static void greatest() {
        OddFridays x = Check.streetOf(0, 0, 6, 0, 2, 3, 4, 12, 5, 5);
        CHECK.asks(x, "p18 how many", () -> x.greatest(0), 3);
        CHECK.asks(x, "p18 houses", () -> x.greatest(1), 0b01001100);
        CHECK.refused(x, "p18 greatest(2)", () -> x.greatest(2), -2, 0);
        CHECK.refused(x, "p18 greatest(-1)", () -> x.greatest(-1), -2, 0);
        CHECK.due("p18 one of like ones", Check.streetOf(0, 0, 0, 7, 7, 7).greatest(1), 2);
        CHECK.due("p18 nobody", new OddFridays().greatest(0), 0);
        CHECK.due("p18 no house", new OddFridays().greatest(1), 0);
        CHECK.due("p18 whatever the law", Check.streetOf(2, 0, 3, 5, 7, 11, 13, 17, 19, 23).greatest(1), 255);
    }

    public static void main(String[] args) {
        quarrels();
        away();
        orders();
        moved();
        longest();
        greatest();
        CHECK.end();
    }
}
