/** The edges of promises 13 to 18: quarrels, and what peace costs. */
public final class EdgePeaceTest {
    private static final int[] ALL_QUARREL = {1, 2, 1, 2, 1, 2, 1, 2};
    private static final int[] ALL_ALIKE = {5, 5, 5, 5, 5, 5, 5, 5};
    /** Under SQUARE: 3 bears 11 alone, 11 then 9, 1 only 9 and 4, 4 then 10: all have to move. */
    private static final int[] ALL_MOVE = {4, 10, 8, 9, 11, 12, 3, 1};

    private static void firstOrder(OddFridays x, int... numbers) {
        for (int h = 0; h < 8; h++) {
            Edges.due(h < numbers.length ? numbers[h] : 0, x.orders(h));
        }
    }

    // ---- promise 13

    static void p13_quarrels_whatIs0And1() {
        Edges.bounds(0, 1, (x, what) -> x.quarrels(what));
    }

    static void p13_quarrels_nobodyLivesThere() {
        Edges.asks(Edges::fresh, 0, x -> x.quarrels(0));
        Edges.asks(Edges::fresh, 0, x -> x.quarrels(1));
    }

    static void p13_quarrels_oneAlone() {
        Edges.asks(Edges.rowWay(0, 0, 0, 0, 1), 0, x -> x.quarrels(0));
        Edges.asks(Edges.rowWay(0, 0, 0, 0, 1), 0, x -> x.quarrels(1));
    }

    static void p13_quarrels_allEight() {
        Edges.asks(Edges.rowWay(0, ALL_QUARREL), 255, x -> x.quarrels(0));
        Edges.asks(Edges.rowWay(0, ALL_QUARREL), 7, x -> x.quarrels(1));
    }

    static void p13_quarrels_allEightInPeace() {
        Edges.asks(Edges.rowWay(0, ALL_ALIKE), 0, x -> x.quarrels(0));
        Edges.asks(Edges.rowWay(0, ALL_ALIKE), 0, x -> x.quarrels(1));
    }

    static void p13_quarrels_threeInARowAreTwoPairs() {
        Edges.asks(Edges.rowWay(0, 4, 2, 8), 0b111, x -> x.quarrels(0));
        Edges.asks(Edges.rowWay(0, 4, 2, 8), 2, x -> x.quarrels(1));
    }

    static void p13_quarrels_byTheLawAsItIs() {
        Edges.asks(Edges::full, 255, x -> x.quarrels(0));
        Edges.asks(Edges::full, 7, x -> x.quarrels(1));
        OddFridays x = Edges.led(Edges::full);
        x.rule(0, 0);
        Edges.due(0, x.quarrels(0));
    }

    // ---- promise 14

    static void p14_away_nobodyLivesThere() {
        Edges.asks(Edges::fresh, 0, OddFridays::away);
    }

    static void p14_away_nobodyQuarrels() {
        Edges.asks(Edges.rowWay(0, ALL_ALIKE), 0, OddFridays::away);
    }

    static void p14_away_ofTwoTheLeast() {
        Edges.asks(Edges.rowWay(0, 1, 2), 0b1, OddFridays::away);
        Edges.asks(Edges.rowWay(0, 0, 0, 0, 0, 0, 0, 1, 2), 0b1000000, OddFridays::away);
    }

    static void p14_away_theMiddleOneRatherThanBothEnds() {
        Edges.asks(Edges.rowWay(0, 4, 2, 8), 0b10, OddFridays::away);
        Edges.asks(Edges.rowWay(0, 0, 0, 0, 0, 0, 4, 2, 8), 0b1000000, OddFridays::away);
    }

    static void p14_away_allPairsQuarrel() {
        Edges.asks(Edges.rowWay(0, ALL_QUARREL), 0b01010101, OddFridays::away);
        Edges.asks(Edges::full, 0b01010101, OddFridays::away);
    }

    static void p14_away_sevenInARow() {
        Edges.asks(Edges.rowWay(0, 1, 2, 1, 2, 1, 2, 1), 0b101010, OddFridays::away);
    }

    static void p14_away_nobodyIsSentAwayIndeed() {
        OddFridays x = Edges.row(0, 1, 2);
        x.away();
        Edges.due(2, x.count(0));
        Edges.due(1, x.quarrels(1));
    }

    // ---- promise 15

    static void p15_orders_hIsNoneAnd0To7() {
        Edges.boundsAs(Edges.BAD_APART, -1, 7, (x, h) -> x.orders(h));
    }

    static void p15_orders_badIsMinus10() {
        Edges.badAs(-10, x -> x.orders(-2));
        Edges.badAs(-10, x -> x.orders(8));
    }

    static void p15_orders_nobodyLivesThereIsOneOrder() {
        Edges.asks(Edges::fresh, 1, x -> x.orders(-1));
        for (int h = 0; h < 8; h++) {
            int house = h;
            Edges.asks(Edges::fresh, 0, x -> x.orders(house));
        }
    }

    static void p15_orders_oneAlone() {
        Edges.asks(Edges.rowWay(0, 0, 0, 0, 0, 0, 0, 0, 1), 1, x -> x.orders(-1));
        Edges.asks(Edges.rowWay(0, 0, 0, 0, 0, 0, 0, 0, 1), 1, x -> x.orders(7));
        Edges.asks(Edges.rowWay(0, 0, 0, 0, 0, 0, 0, 0, 1), 0, x -> x.orders(6));
    }

    static void p15_orders_likeOnesCountApart() {
        Edges.asks(Edges.rowWay(0, ALL_ALIKE), 40320, x -> x.orders(-1));
        Edges.asks(Edges.rowWay(0, 5, 5), 2, x -> x.orders(-1));
    }

    static void p15_orders_emptyHousesStayEmpty() {
        OddFridays x = Edges.row(0, 4, 2, 0, 3, 0, 0, 0, 6);
        Edges.due(12, x.orders(-1));
        firstOrder(x, 4, 3, 0, 2, 0, 0, 0, 6);
    }

    static void p15_orders_apartByAnEmptyHouse() {
        Edges.asks(Edges.rowWay(0, 1, 0, 2), 2, x -> x.orders(-1));
        Edges.asks(Edges.rowWay(0, 1, 0, 2, 0, 4, 0, 8), 24, x -> x.orders(-1));
    }

    static void p15_orders_house7IsNotBeside0() {
        Edges.asks(Edges.rowWay(0, 2, 0, 0, 0, 0, 0, 0, 4), 2, x -> x.orders(-1));
    }

    static void p15_orders_noneIs0() {
        Edges.asks(Edges.rowWay(0, 1, 2), 0, x -> x.orders(-1));
        Edges.asks(Edges.rowWay(0, ALL_QUARREL), 0, x -> x.orders(-1));
    }

    static void p15_orders_noFirstIsNone() {
        for (int h = 0; h < 8; h++) {
            int house = h;
            Edges.asks(Edges.rowWay(0, ALL_QUARREL), -1, x -> x.orders(house));
        }
    }

    static void p15_orders_noFirstInAnEmptyHouseIsNoneToo() {
        Edges.asks(Edges.rowWay(0, 1, 2), -1, x -> x.orders(7));
    }

    static void p15_orders_peaceAlreadyIsTheFirst() {
        firstOrder(Edges.row(0, 9, 8, 7, 6, 5, 4, 3, 2), 9, 8, 7, 6, 5, 4, 3, 2);
    }

    static void p15_orders_risingByHousesNotByNumbers() {
        OddFridays x = Edges.row(0, 4, 2, 3);
        Edges.due(2, x.orders(-1));
        firstOrder(x, 4, 3, 2);
        OddFridays turned = Edges.row(0, 3, 2, 4);
        firstOrder(turned, 2, 3, 4);
    }

    static void p15_orders_theFirstThatCanBeGoneOnToItsEnd() {
        OddFridays x = Edges.row(30, ALL_MOVE);
        Edges.due(4, x.orders(-1));
        firstOrder(x, 8, 12, 10, 4, 1, 9, 11, 3);
    }

    static void p15_orders_nothingIsLeftOfTheLawBefore() {
        OddFridays x = Edges.row(0, 3, 5, 7);
        Edges.due(6, x.orders(-1));
        x.rule(2, 0);
        Edges.due(0, x.orders(-1));
        Edges.due(-1, x.orders(0));
        x.undo();
        Edges.due(6, x.orders(-1));
    }

    static void p15_orders_nothingIsLeftOfTheStreetBefore() {
        OddFridays x = Edges.row(0, 7, 8, 9, 10, 11, 12, 13, 15);
        x.orders(-1);
        x.street(0, 0);
        Edges.due(1, x.orders(-1));
        x.house(0, 4);
        x.house(1, 2);
        Edges.due(0, x.orders(-1));
    }

    static void p15_orders_aHouseThatWasLivedInIsEmpty() {
        OddFridays x = Edges.row(0, 7, 8, 9, 10, 11, 12, 13, 15);
        for (int h = 7; h >= 0; h--) {
            x.orders(h);
            x.house(h, 0);
            Edges.due(0, x.orders(h));
        }
    }

    static void p15_orders_nobodyMovesIndeed() {
        OddFridays x = Edges.row(0, 4, 2, 3);
        x.orders(0);
        Edges.due(4, x.of(0, 0));
        Edges.due(2, x.of(1, 0));
    }

    // ---- promise 16

    static void p16_moved_nobodyLivesThere() {
        Edges.asks(Edges::fresh, 0, OddFridays::moved);
    }

    static void p16_moved_peaceAlready() {
        Edges.asks(Edges.rowWay(0, ALL_ALIKE), 0, OddFridays::moved);
        Edges.asks(Edges.rowWay(0, 0, 0, 1), 0, OddFridays::moved);
    }

    static void p16_moved_twoAtTheLeast() {
        Edges.asks(Edges.rowWay(0, 4, 2, 3), 2, OddFridays::moved);
    }

    static void p16_moved_allEight() {
        Edges.asks(Edges.rowWay(30, ALL_MOVE), 8, OddFridays::moved);
    }

    static void p16_moved_none() {
        Edges.asks(Edges.rowWay(0, 1, 2), -1, OddFridays::moved);
        Edges.asks(Edges.rowWay(0, ALL_QUARREL), -1, OddFridays::moved);
    }

    static void p16_moved_noneIsNoRefusal() {
        OddFridays x = Edges.row(0, 1, 2);
        Edges.due(OddFridays.NONE, x.moved());
        Edges.statusIs(x, 0, 0, 0);
    }

    static void p16_moved_threeWhereTwoAreNotEnough() {
        Edges.asks(Edges.rowWay(0, 3, 3, 0, 6, 2, 4), 3, OddFridays::moved);
    }

    static void p16_moved_nothingIsLeftOfTheLawBefore() {
        OddFridays x = Edges.row(0, 3, 5, 7);
        Edges.due(0, x.moved());
        x.rule(2, 0);
        Edges.due(-1, x.moved());
    }

    // ---- promise 17

    static void p17_longest_nobodyLivesThere() {
        Edges.asks(Edges::fresh, 0, OddFridays::longest);
    }

    static void p17_longest_oneAlone() {
        Edges.asks(Edges.rowWay(0, 1), 1, OddFridays::longest);
        Edges.asks(Edges.rowWay(0, 0, 0, 0, 0, 0, 0, 0, 300), 1, OddFridays::longest);
    }

    static void p17_longest_likeOnesDivide() {
        Edges.asks(Edges.rowWay(0, ALL_ALIKE), 1, OddFridays::longest);
        Edges.asks(Edges.rowWay(0, 5, 5), 1, OddFridays::longest);
        Edges.asks(Edges.rowWay(0, 5, 5, 7), 3, OddFridays::longest);
    }

    static void p17_longest_1DividesAll() {
        Edges.asks(Edges.rowWay(0, 1, 7), 1, OddFridays::longest);
        Edges.asks(Edges.rowWay(0, 1, 7, 9), 2, OddFridays::longest);
        Edges.asks(Edges.rowWay(0, 1, 1), 1, OddFridays::longest);
    }

    static void p17_longest_allEight() {
        Edges.asks(Edges.rowWay(0, 7, 8, 9, 10, 11, 12, 13, 15), 8, OddFridays::longest);
        Edges.asks(Edges.rowWay(0, 2, 4, 8, 16, 3, 9, 27, 81), 8, OddFridays::longest);
    }

    static void p17_longest_noneOfAllFits() {
        Edges.asks(Edges.rowWay(0, 1, 2, 4, 8, 16, 32, 64, 128), 1, OddFridays::longest);
    }

    static void p17_longest_notAllFit() {
        Edges.asks(Edges.rowWay(0, 2, 4, 8, 16, 3), 3, OddFridays::longest);
        Edges.asks(Edges.rowWay(0, 3, 2, 4, 8, 16), 3, OddFridays::longest);
        Edges.asks(Edges.rowWay(0, 2, 4, 3, 8, 16), 3, OddFridays::longest);
        Edges.asks(Edges.rowWay(0, 2, 4, 8, 16, 32, 3, 9), 5, OddFridays::longest);
        Edges.asks(Edges.rowWay(0, 3, 9, 2, 4, 8, 16, 32), 5, OddFridays::longest);
    }

    static void p17_longest_nothingIsLeftOfTheStreetBefore() {
        OddFridays x = Edges.row(0, 7, 8, 9, 10, 11, 12, 13, 15);
        Edges.due(8, x.longest());
        for (int h = 0; h < 8; h++) {
            x.house(h, 1 << h);
        }
        Edges.due(1, x.longest());
    }

    static void p17_longest_whateverTheLaw() {
        for (int law = 0; law < 60; law += 9) {
            Edges.asks(Edges.rowWay(law, 2, 3, 4, 5), 4, OddFridays::longest);
        }
    }

    static void p17_longest_emptyHousesDoNotPart() {
        Edges.asks(Edges.rowWay(0, 2, 0, 4), 1, OddFridays::longest);
    }

    // ---- promise 18

    static void p18_greatest_whatIs0And1() {
        Edges.bounds(0, 1, (x, what) -> x.greatest(what));
    }

    static void p18_greatest_nobodyLivesThere() {
        Edges.asks(Edges::fresh, 0, x -> x.greatest(0));
        Edges.asks(Edges::fresh, 0, x -> x.greatest(1));
    }

    static void p18_greatest_oneAlone() {
        Edges.asks(Edges.rowWay(0, 0, 0, 0, 0, 0, 0, 0, 1), 1, x -> x.greatest(0));
        Edges.asks(Edges.rowWay(0, 0, 0, 0, 0, 0, 0, 0, 1), 128, x -> x.greatest(1));
    }

    static void p18_greatest_allEight() {
        Edges.asks(Edges.rowWay(0, 7, 8, 9, 10, 11, 12, 13, 15), 8, x -> x.greatest(0));
        Edges.asks(Edges.rowWay(0, 7, 8, 9, 10, 11, 12, 13, 15), 255, x -> x.greatest(1));
    }

    static void p18_greatest_likeOnesDivide() {
        Edges.asks(Edges.rowWay(0, ALL_ALIKE), 1, x -> x.greatest(0));
        Edges.asks(Edges.rowWay(0, ALL_ALIKE), 1, x -> x.greatest(1));
    }

    static void p18_greatest_ofLikeSetsTheLeast() {
        Edges.asks(Edges.rowWay(0, 0, 7, 7, 7), 0b10, x -> x.greatest(1));
        Edges.asks(Edges.rowWay(0, 2, 4, 8, 0, 3, 9), 0b10001, x -> x.greatest(1));
    }

    static void p18_greatest_ofNoTwoNotOnlyOfNeighbours() {
        Edges.asks(Edges.rowWay(0, 2, 3, 4), 2, x -> x.greatest(0));
        Edges.asks(Edges.rowWay(0, 2, 3, 4), 0b11, x -> x.greatest(1));
        Edges.asks(Edges.rowWay(0, 2, 0, 4), 1, x -> x.greatest(0));
    }

    static void p18_greatest_1DividesAll() {
        Edges.asks(Edges.rowWay(0, 1, 300), 1, x -> x.greatest(1));
        Edges.asks(Edges.rowWay(0, 1, 299, 300), 0b110, x -> x.greatest(1));
    }

    static void p18_greatest_nothingIsLeftOfTheStreetBefore() {
        OddFridays x = Edges.row(0, 7, 8, 9, 10, 11, 12, 13, 15);
        Edges.due(255, x.greatest(1));
        for (int h = 0; h < 8; h++) {
            x.house(h, 1 << h);
        }
        Edges.due(1, x.greatest(1));
    }

    static void p18_greatest_whateverTheLaw() {
        for (int law = 0; law < 60; law += 9) {
            Edges.asks(Edges.rowWay(law, 2, 3, 5, 4), 3, x -> x.greatest(0));
        }
    }

    public static void main(String[] args) {
        Edges.run(EdgePeaceTest.class);
    }
}
