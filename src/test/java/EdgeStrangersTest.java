/** The edges of promises 22 to 30: strangers, laws told from notes, splits, odds and streets by a seed. */
public final class EdgeStrangersTest {
    private static final int[] ALL_EVEN = {300, 298, 300, 298, 300, 298, 300, 298};

    private static Edges.Way readings(int... threes) {
        return x -> {
            for (int i = 0; i + 2 < threes.length; i += 3) {
                x.rule(threes[i] / 10, threes[i] % 10);
                x.reading(threes[i + 1], threes[i + 2]);
            }
        };
    }

    private static Edges.Way notes(int... threes) {
        return x -> {
            for (int i = 0; i + 2 < threes.length; i += 3) {
                x.note(threes[i], threes[i + 1], threes[i + 2]);
            }
        };
    }

    private static void odds(long above, long below, int o, int law, int... numbers) {
        OddFridays x = Edges.row(law, numbers);
        Edges.due(1, x.odds(o));
        Edges.due(above, x.part(0));
        Edges.due(below, x.part(1));
    }

    // ---- promise 22

    static void p22_reading_xIs1To300() {
        Edges.bounds(1, 300, (street, x) -> street.reading(x, 1));
    }

    static void p22_reading_isIs0And1() {
        Edges.bounds(0, 1, (street, is) -> street.reading(1, is));
    }

    static void p22_reading_bothWrongCountOnce() {
        Edges.bad(x -> x.reading(0, 2));
        Edges.bad(x -> x.reading(301, -1));
    }

    static void p22_reading_theFirst() {
        OddFridays x = new OddFridays();
        Edges.due(1, x.reading(300, 0));
        Edges.due(1, x.count(2));
    }

    static void p22_reading_theEighthIsTaken() {
        OddFridays x = new OddFridays();
        for (int i = 1; i <= 8; i++) {
            Edges.due(i, x.reading(i == 8 ? 300 : 1, i % 2));
        }
        Edges.due(8, x.count(2));
        Edges.due(0, x.status(2));
    }

    static void p22_reading_theNinthIsFull() {
        Edges.refused(Edges::full, x -> x.reading(1, 0), Edges.FULL, Edges.FULLS);
        Edges.refused(Edges::full, x -> x.reading(300, 1), Edges.FULL, Edges.FULLS);
    }

    static void p22_reading_badIsAheadOfFull() {
        Edges.refused(Edges::full, x -> x.reading(301, 1), Edges.BAD, Edges.BADS);
        Edges.refused(Edges::full, x -> x.reading(1, 2), Edges.BAD, Edges.BADS);
    }

    static void p22_reading_goesOnBehindForget() {
        OddFridays x = Edges.led(Edges::full);
        x.forget(0);
        Edges.due(1, x.reading(1, 1));
    }

    static void p22_reading_byTheLawAsItWasThen() {
        OddFridays x = new OddFridays();
        x.rule(4, 9);
        x.reading(100, 1);
        int then = x.who(0);
        x.rule(1, 0);
        Edges.due(then, x.who(0));
        x.undo();
        x.undo();
        Edges.due(then, x.who(0));
    }

    static void p22_reading_fullNotesDoNotCount() {
        OddFridays x = new OddFridays();
        for (int i = 0; i < 8; i++) {
            x.note(1, 1, 1);
        }
        Edges.due(1, x.reading(1, 1));
    }

    // ---- promise 23

    static void p23_who_whatIs0And1() {
        Edges.boundsAs(Edges.BAD_APART, 0, 1, (x, what) -> x.who(what));
    }

    static void p23_who_badIsMinus10() {
        Edges.badAs(-10, x -> x.who(2));
        Edges.badAs(-10, x -> x.who(-1));
    }

    static void p23_who_noReadingsYetIsAnybody() {
        Edges.asks(Edges::fresh, 300, x -> x.who(0));
        Edges.asks(Edges::fresh, 1, x -> x.who(1));
    }

    static void p23_who_1Alone() {
        Edges.asks(readings(0, 1, 1), 1, x -> x.who(0));
        Edges.asks(readings(0, 1, 1), 1, x -> x.who(1));
    }

    static void p23_who_allBut1() {
        Edges.asks(readings(0, 1, 0), 299, x -> x.who(0));
        Edges.asks(readings(0, 1, 0), 2, x -> x.who(1));
    }

    static void p23_who_300Alone() {
        Edges.Way way = readings(0, 150, 0, 0, 100, 0, 0, 60, 0, 0, 110, 1);
        Edges.asks(way, 1, x -> x.who(0));
        Edges.asks(way, 300, x -> x.who(1));
    }

    static void p23_who_all300FitAReading() {
        Edges.asks(readings(20, 7, 0), 300, x -> x.who(0));
    }

    static void p23_who_noneFits() {
        Edges.Way way = readings(20, 7, 1);
        Edges.asks(way, 0, x -> x.who(0));
        Edges.asks(way, -1, x -> x.who(1));
    }

    static void p23_who_noneIsNoRefusal() {
        OddFridays x = Edges.led(readings(20, 7, 1));
        Edges.due(OddFridays.NONE, x.who(1));
        Edges.statusIs(x, 0, 0, 0);
    }

    static void p23_who_theSameNumberMayLiveBesideHim() {
        OddFridays x = Edges.led(readings(0, 7, 1));
        Edges.due(300 - 1 - 41, x.who(0));
    }

    static void p23_who_allEightReadingsCount() {
        for (int last = 0; last < 8; last++) {
            OddFridays x = new OddFridays();
            for (int i = 0; i < 8; i++) {
                x.reading(i == last ? 2 : 1, 0);
            }
            Edges.due(149, x.who(0));
            Edges.due(4, x.who(1));
        }
    }

    // ---- promise 24

    static void p24_tryNext_noReadingsYet() {
        Edges.asks(Edges::fresh, 2, OddFridays::tryNext);
    }

    static void p24_tryNext_heCanBeNone() {
        Edges.asks(readings(20, 7, 1), -1, OddFridays::tryNext);
    }

    static void p24_tryNext_noneIsNoRefusal() {
        OddFridays x = Edges.led(readings(20, 7, 1));
        Edges.due(OddFridays.NONE, x.tryNext());
        Edges.statusIs(x, 0, 0, 0);
    }

    static void p24_tryNext_heCanBeOneAlone() {
        Edges.asks(readings(0, 1, 1), 1, OddFridays::tryNext);
        Edges.asks(readings(0, 150, 0, 0, 100, 0, 0, 60, 0, 0, 110, 1), 1, OddFridays::tryNext);
    }

    /** He is 13 or 17: 26, 34, 39 and more part these; 2 to 25 do not. */
    static void p24_tryNext_ofLikeOnesTheFirst() {
        Edges.asks(readings(0, 221, 0, 0, 3, 1), 26, OddFridays::tryNext);
    }

    static void p24_tryNext_nothingPartsThem() {
        OddFridays x = Edges.led(readings(0, 221, 0, 0, 3, 1));
        x.rule(2, 0);
        Edges.due(2, x.who(0));
        Edges.due(1, x.tryNext());
    }

    static void p24_tryNext_aLateOne() {
        Edges.Way two = readings(20, 91, 0, 49, 298, 0, 42, 252, 1, 46, 209, 1, 40, 92, 1, 45, 255, 1, 46, 273, 1);
        OddFridays x = Edges.led(two);
        x.rule(0, 0);
        Edges.due(2, x.who(0));
        Edges.due(149, x.who(1));
        Edges.due(298, x.tryNext());
    }

    static void p24_tryNext_byTheLawAsItIs() {
        OddFridays x = new OddFridays();
        Edges.due(2, x.tryNext());
        x.rule(1, 0);
        Edges.due(101, x.tryNext());
    }

    // ---- promise 25

    static void p25_note_aIs1To300() {
        Edges.bounds(1, 300, (x, a) -> x.note(a, 7, 1));
    }

    static void p25_note_bIs1To300() {
        Edges.bounds(1, 300, (x, b) -> x.note(7, b, 1));
    }

    static void p25_note_isIs0And1() {
        Edges.bounds(0, 1, (x, is) -> x.note(7, 7, is));
    }

    static void p25_note_allWrongCountOnce() {
        Edges.bad(x -> x.note(0, 301, 2));
    }

    static void p25_note_theFirst() {
        OddFridays x = new OddFridays();
        Edges.due(1, x.note(1, 300, 0));
        Edges.due(1, x.count(3));
    }

    static void p25_note_theEighthIsTaken() {
        OddFridays x = new OddFridays();
        for (int i = 1; i <= 8; i++) {
            Edges.due(i, x.note(1, 300, 0));
        }
        Edges.due(8, x.count(3));
        Edges.due(0, x.status(2));
    }

    static void p25_note_theNinthIsFull() {
        Edges.refused(Edges::full, x -> x.note(1, 300, 0), Edges.FULL, Edges.FULLS);
        Edges.refused(Edges::full, x -> x.note(300, 1, 1), Edges.FULL, Edges.FULLS);
    }

    static void p25_note_badIsAheadOfFull() {
        Edges.refused(Edges::full, x -> x.note(0, 1, 1), Edges.BAD, Edges.BADS);
        Edges.refused(Edges::full, x -> x.note(1, 301, 1), Edges.BAD, Edges.BADS);
        Edges.refused(Edges::full, x -> x.note(1, 1, 2), Edges.BAD, Edges.BADS);
    }

    static void p25_note_goesOnBehindForget() {
        OddFridays x = Edges.led(Edges::full);
        x.forget(1);
        Edges.due(1, x.note(1, 1, 1));
    }

    static void p25_note_ofOneAndTheSame() {
        OddFridays x = new OddFridays();
        Edges.due(1, x.note(300, 300, 1));
        Edges.due(60 - 9, x.laws(0));
    }

    static void p25_note_fullReadingsDoNotCount() {
        OddFridays x = new OddFridays();
        for (int i = 0; i < 8; i++) {
            x.reading(1, 1);
        }
        Edges.due(1, x.note(1, 1, 1));
    }

    // ---- promise 26

    static void p26_laws_whatIs0And1() {
        Edges.boundsAs(Edges.BAD_APART, 0, 1, (x, what) -> x.laws(what));
    }

    static void p26_laws_badIsMinus10() {
        Edges.badAs(-10, x -> x.laws(2));
        Edges.badAs(-10, x -> x.laws(-1));
    }

    static void p26_laws_noNotesYetIsAll60() {
        Edges.asks(Edges::fresh, 60, x -> x.laws(0));
        Edges.asks(Edges::fresh, 0, x -> x.laws(1));
    }

    static void p26_laws_noneFits() {
        Edges.asks(notes(1, 2, 1), 0, x -> x.laws(0));
        Edges.asks(notes(1, 2, 1), -1, x -> x.laws(1));
    }

    static void p26_laws_noneIsNoRefusal() {
        OddFridays x = Edges.led(notes(1, 2, 1));
        Edges.due(OddFridays.NONE, x.laws(1));
        Edges.statusIs(x, 0, 0, 0);
    }

    static void p26_laws_shyOf9Alone() {
        Edges.asks(notes(11, 19, 0, 11, 20, 1), 1, x -> x.laws(0));
        Edges.asks(notes(11, 19, 0, 11, 20, 1), 49, x -> x.laws(1));
    }

    static void p26_laws_shyOf1AndMore() {
        Edges.asks(notes(4, 4, 0), 9, x -> x.laws(0));
        Edges.asks(notes(4, 4, 0), 41, x -> x.laws(1));
    }

    static void p26_laws_primeAndFriendToTheLast() {
        Edges.asks(notes(5, 5, 0, 4, 4, 1), 20, x -> x.laws(0));
        Edges.asks(notes(5, 5, 0, 4, 4, 1), 20, x -> x.laws(1));
    }

    static void p26_laws_squareAlone() {
        Edges.asks(notes(4, 16, 1), 10, x -> x.laws(0));
        Edges.asks(notes(4, 16, 1), 30, x -> x.laws(1));
    }

    static void p26_laws_all60FitANote() {
        Edges.asks(notes(1, 300, 0), 60, x -> x.laws(0));
    }

    static void p26_laws_allEightNotesCount() {
        for (int last = 0; last < 8; last++) {
            OddFridays x = new OddFridays();
            for (int i = 0; i < 8; i++) {
                x.note(i == last ? 4 : 1, i == last ? 16 : 300, i == last ? 1 : 0);
            }
            Edges.due(10, x.laws(0));
        }
    }

    static void p26_laws_whateverTheLaw() {
        Edges.asks(Edges.rowWay(59, 1, 2), 60, x -> x.laws(0));
        Edges.asks(Edges.rowWay(59, 1, 2), 0, x -> x.laws(1));
    }

    // ---- promise 27

    static void p27_forget_whatIs0And1() {
        Edges.bounds(0, 1, (x, what) -> x.forget(what));
    }

    static void p27_forget_noneYet() {
        Edges.asks(Edges::fresh, 0, x -> x.forget(0));
        Edges.asks(Edges::fresh, 0, x -> x.forget(1));
    }

    static void p27_forget_allEightReadings() {
        OddFridays x = Edges.led(Edges::full);
        Edges.due(8, x.forget(0));
        Edges.due(0, x.count(2));
        Edges.due(8, x.count(3));
        Edges.due(300, x.who(0));
        Edges.due(0, x.forget(0));
    }

    static void p27_forget_allEightNotes() {
        OddFridays x = Edges.led(Edges::full);
        Edges.due(8, x.forget(1));
        Edges.due(0, x.count(3));
        Edges.due(8, x.count(2));
        Edges.due(60, x.laws(0));
        Edges.due(0, x.forget(1));
    }

    static void p27_forget_isNotUndone() {
        OddFridays x = Edges.led(Edges::full);
        x.forget(0);
        Edges.due(8, x.count(4));
        x.undo();
        Edges.due(0, x.count(2));
    }

    // ---- promise 28

    static void p28_split_hIs0To7() {
        Edges.bounds(0, 7, (x, h) -> x.split(h));
    }

    static void p28_split_nobodyLivesThereIsNone() {
        for (int h = 0; h < 8; h++) {
            int house = h;
            Edges.asks(Edges::fresh, -1, x -> x.split(house));
        }
    }

    static void p28_split_number1IsNone() {
        Edges.asks(Edges.rowWay(0, 1), -1, x -> x.split(0));
    }

    static void p28_split_number2IsOneAndOne() {
        Edges.asks(Edges.rowWay(0, 2), 0, x -> x.split(0));
        Edges.asks(Edges.rowWay(41, 2), 1, x -> x.split(0));
    }

    static void p28_split_number3IsOneAndTwo() {
        Edges.asks(Edges.rowWay(0, 3), 1, x -> x.split(0));
        Edges.asks(Edges.rowWay(0, 0, 3, 0, 3), 1, x -> x.split(1));
    }

    static void p28_split_number300() {
        Edges.asks(Edges.rowWay(0, 300, 0, 75), 1, x -> x.split(0));
        Edges.asks(Edges.rowWay(0, 300, 0, 149), 0, x -> x.split(0));
        Edges.asks(Edges.rowWay(0, 0, 0, 0, 0, 0, 149, 300), 0, x -> x.split(6));
    }

    static void p28_split_theLessStaysTheRestMovesOn() {
        Edges.asks(Edges.rowWay(0, 3, 9, 0, 10), 1, x -> x.split(1));
        Edges.asks(Edges.rowWay(0, 3, 9, 0, 8), 0, x -> x.split(1));
        Edges.asks(Edges.rowWay(0, 8, 9, 0, 3), 1, x -> x.split(1));
        Edges.asks(Edges.rowWay(0, 3, 9, 0, 25), 1, x -> x.split(1));
    }

    static void p28_split_noHouseIsEmptyIsNone() {
        for (int h = 0; h < 8; h++) {
            int house = h;
            Edges.asks(Edges::full, -1, x -> x.split(house));
        }
    }

    static void p28_split_theOnlyEmptyHouseIsJustBehind() {
        Edges.asks(Edges.rowWay(0, 7, 7, 7, 7, 7, 7, 14), 0, x -> x.split(6));
    }

    static void p28_split_theOnlyEmptyHouseIsAhead() {
        Edges.asks(Edges.rowWay(0, 7, 7, 7, 7, 7, 0, 14, 7), 0, x -> x.split(6));
        Edges.asks(Edges.rowWay(0, 0, 7, 7, 7, 7, 7, 7, 14), 0, x -> x.split(7));
    }

    static void p28_split_theNextOfGreaterNumberNotTheLeast() {
        Edges.asks(Edges.rowWay(0, 0, 3, 10, 0, 10), 1, x -> x.split(2));
    }

    static void p28_split_from7TheLeastOfAll() {
        Edges.asks(Edges.rowWay(0, 0, 7, 0, 5, 5, 5, 5, 14), 0, x -> x.split(7));
        Edges.asks(Edges.rowWay(0, 0, 14, 0, 5, 5, 5, 5, 14), 1, x -> x.split(7));
        Edges.asks(Edges.rowWay(0, 5, 14, 0, 5, 5, 5, 5, 14), 1, x -> x.split(7));
    }

    static void p28_split_theNextHouseIs7() {
        Edges.asks(Edges.rowWay(0, 0, 0, 0, 0, 0, 14), 0, x -> x.split(5));
        Edges.asks(Edges.rowWay(0, 0, 0, 0, 0, 0, 5, 14), 0, x -> x.split(6));
        Edges.asks(Edges.rowWay(41, 0, 0, 0, 0, 0, 0, 14), 1, x -> x.split(6));
    }

    static void p28_split_noneIsNoRefusal() {
        OddFridays x = new OddFridays();
        Edges.due(OddFridays.NONE, x.split(0));
        Edges.statusIs(x, 0, 0, 0);
    }

    // ---- promise 29

    static void p29_odds_oIs0To10() {
        Edges.bounds(0, 10, (x, o) -> x.odds(o));
    }

    static void p29_odds_refusedLeavesTheFraction() {
        OddFridays x = Edges.row(0, 2, 4);
        x.odds(5);
        Edges.due(Edges.BAD, x.odds(11));
        Edges.due(3, x.part(0));
        Edges.due(4, x.part(1));
    }

    static void p29_odds_nobodyLivesThere() {
        for (int o = 0; o <= 10; o++) {
            odds(1, 1, o, 0);
        }
    }

    static void p29_odds_of0NobodyHasOne() {
        odds(0, 1, 0, 0, 2, 4);
        odds(1, 1, 0, 0, 2, 3);
    }

    static void p29_odds_of10AllHaveOne() {
        odds(1, 1, 10, 0, 2, 4);
        odds(0, 1, 10, 0, 1, 3);
    }

    static void p29_odds_noChanceIs0By1() {
        OddFridays x = Edges.row(0, 2, 4);
        x.odds(5);
        x.odds(0);
        Edges.due(0, x.part(0));
        Edges.due(1, x.part(1));
    }

    static void p29_odds_lowestTerms() {
        odds(3, 4, 5, 0, 2, 4);
        odds(19, 100, 1, 0, 2, 4);
        odds(9, 25, 2, 0, 2, 4);
    }

    static void p29_odds_300StaysAtMost() {
        odds(1, 1, 10, 0, 300, 300);
        odds(0, 1, 10, 41, 300, 300);
        odds(1, 2, 5, 0, 300, 150);
        odds(1, 2, 5, 41, 299, 300);
    }

    static void p29_odds_of1ItIs2Then() {
        odds(1, 1, 10, 0, 1, 2);
        odds(0, 1, 0, 0, 1, 2);
    }

    static void p29_odds_oneAloneIsInPeaceUnderEachKind() {
        for (int law = 0; law < 60; law++) {
            for (int o = 0; o <= 10; o += 5) {
                odds(1, 1, o, law, 1);
                odds(1, 1, o, law, 2);
                odds(1, 1, o, law, 0, 0, 0, 0, 0, 0, 0, 300);
            }
        }
    }

    static void p29_odds_anEmptyHouseBetween() {
        odds(1, 1, 5, 0, 2, 0, 4);
        odds(1, 1, 5, 0, 2, 0, 0, 0, 0, 0, 0, 4);
    }

    /** As they are they divide, and of some older ones parities differ: all must have one. */
    static void p29_odds_allEightMustHaveOne() {
        odds(1, 100000000, 1, 10, 2, 4, 2, 4, 2, 4, 2, 4);
        odds(43046721, 100000000, 9, 10, 2, 4, 2, 4, 2, 4, 2, 4);
        odds(1, 256, 5, 10, 2, 4, 2, 4, 2, 4, 2, 4);
    }

    static void p29_odds_nobodyIsOlderThen() {
        OddFridays x = Edges.row(0, ALL_EVEN);
        long digest = x.digest();
        x.odds(0);
        Edges.due(1, x.part(0));
        Edges.due(8, x.count(4));
        Edges.due(300, x.of(0, 0));
        Edges.due(298, x.of(7, 0));
        Edges.due(digest + 31, x.digest());
    }

    // ---- promise 30

    static void p30_streets_seedIs0To999999() {
        Edges.bounds(0, 999999, (x, seed) -> x.streets(seed, 1));
    }

    static void p30_streets_nIs0To30() {
        Edges.bounds(0, 30, (x, n) -> x.streets(1, n));
    }

    static void p30_streets_bothWrongCountOnce() {
        Edges.bad(x -> x.streets(-1, -1));
        Edges.bad(x -> x.streets(1000000, 31));
    }

    static void p30_streets_noStreetAtAll() {
        Edges.asks(Edges::fresh, 0, x -> x.streets(0, 0));
        Edges.asks(Edges::fresh, 0, x -> x.streets(999999, 0));
    }

    static void p30_streets_byTheGreatestSeedAndN() {
        Edges.asks(Edges.rowWay(45), 19, x -> x.streets(0, 30));
        Edges.asks(Edges.rowWay(45), 19, x -> x.streets(999999, 30));
    }

    static void p30_streets_neverMoreThanThereAre() {
        OddFridays x = new OddFridays();
        for (int n = 1; n <= 30; n++) {
            int more = x.streets(999999, n) - x.streets(999999, n - 1);
            Edges.due(1, more == 0 || more == 1 ? 1 : 0);
        }
    }

    static void p30_streets_byTheLawAsItIsWhoeverLivesThere() {
        Edges.asks(Edges.rowWay(45, 1, 2, 1, 2, 1, 2, 1, 2), 5, x -> x.streets(0, 9));
    }

    public static void main(String[] args) {
        Edges.run(EdgeStrangersTest.class);
    }
}
