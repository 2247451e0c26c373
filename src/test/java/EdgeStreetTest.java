/** The edges of promises 1 to 9, 11 and 12: the street, its text's bytes, and who may live beside whom. */
public final class EdgeStreetTest {
    private static void numbersAre(OddFridays x, int... numbers) {
        for (int h = 0; h < 8; h++) {
            Edges.due(h < numbers.length ? numbers[h] : 0, x.of(h, 0));
        }
    }

    // ---- promise 1

    static void p01_new_allHousesAreEmpty() {
        numbersAre(new OddFridays());
        Edges.due(0, new OddFridays().count(0));
    }

    static void p01_new_theLawIs0And0() {
        Edges.due(0, new OddFridays().count(1));
        Edges.due(0, new OddFridays().rule(5, 9));
    }

    static void p01_new_noReadings() {
        Edges.due(0, new OddFridays().count(2));
        Edges.due(300, new OddFridays().who(0));
    }

    static void p01_new_noNotes() {
        Edges.due(0, new OddFridays().count(3));
        Edges.due(60, new OddFridays().laws(0));
    }

    static void p01_new_nothingToUndo() {
        Edges.due(0, new OddFridays().count(4));
        Edges.due(Edges.NO, new OddFridays().undo());
    }

    static void p01_new_theTextIsEmpty() {
        Edges.due(0, new OddFridays().count(5));
        Edges.due(1, new OddFridays().type('a'));
    }

    static void p01_new_theFractionIs0By1() {
        Edges.due(0, new OddFridays().part(0));
        Edges.due(1, new OddFridays().part(1));
    }

    static void p01_new_noImageWasKept() {
        Edges.due(Edges.NO, new OddFridays().from(0));
        Edges.due(Edges.NO, new OddFridays().from(1));
    }

    static void p01_new_nothingWasRefused() {
        Edges.statusIs(new OddFridays(), 0, 0, 0);
    }

    static void p01_new_objectsShareNothing() {
        OddFridays other = Edges.led(Edges::full);
        OddFridays x = new OddFridays();
        numbersAre(x);
        Edges.statusIs(x, 0, 0, 0);
        x.house(0, 1);
        Edges.due(40, other.of(0, 0));
    }

    // ---- promise 2

    static void p02_street_kindIs0To5() {
        Edges.bounds(0, 5, (x, kind) -> x.street(kind, 0));
    }

    static void p02_street_nIs0To9() {
        Edges.bounds(0, 9, (x, n) -> x.street(0, n));
    }

    static void p02_street_bothWrongCountOnce() {
        Edges.bad(x -> x.street(6, 10));
        Edges.bad(x -> x.street(-1, -1));
    }

    static void p02_street_kind5AndN9AreTheLaw() {
        OddFridays x = new OddFridays();
        x.street(5, 9);
        Edges.due(59, x.count(1));
        x.street(0, 0);
        Edges.due(0, x.count(1));
    }

    static void p02_street_nobodyLivedThere() {
        Edges.due(0, new OddFridays().street(0, 0));
    }

    static void p02_street_allEightLivedThere() {
        Edges.due(8, Edges.led(Edges::full).street(0, 0));
    }

    static void p02_street_allHousesAreEmptyThen() {
        OddFridays x = Edges.led(Edges::full);
        x.street(4, 9);
        numbersAre(x);
        Edges.due(0, x.street(4, 9));
    }

    static void p02_street_noReadingsThen() {
        OddFridays x = Edges.led(Edges::full);
        x.street(4, 9);
        Edges.due(0, x.count(2));
        Edges.due(300, x.who(0));
        Edges.due(1, x.reading(1, 1));
    }

    static void p02_street_noNotesThen() {
        OddFridays x = Edges.led(Edges::full);
        x.street(4, 9);
        Edges.due(0, x.count(3));
        Edges.due(60, x.laws(0));
        Edges.due(1, x.note(1, 1, 1));
    }

    static void p02_street_nothingToUndoThen() {
        OddFridays x = Edges.led(Edges::full);
        x.street(4, 9);
        Edges.due(0, x.count(4));
        Edges.due(Edges.NO, x.undo());
        Edges.due(49, x.count(1));
    }

    static void p02_street_imagesStay() {
        OddFridays x = Edges.led(Edges::full);
        x.street(5, 5);
        Edges.due(1, x.from(0));
        numbersAre(x, 0, 0, 9);
        Edges.due(1, x.from(1));
        numbersAre(x, 0, 0, 0, 0, 0, 0, 0, 6);
    }

    static void p02_street_theTextStays() {
        OddFridays x = Edges.led(Edges::full);
        x.street(5, 5);
        Edges.due(150, x.count(5));
        Edges.due(13, x.read());
    }

    static void p02_street_theFractionStays() {
        OddFridays x = Edges.led(Edges::full);
        long above = x.part(0);
        long below = x.part(1);
        x.street(5, 5);
        Edges.due(above, x.part(0));
        Edges.due(below, x.part(1));
    }

    static void p02_street_statusStays() {
        OddFridays x = Edges.led(Edges::full);
        x.street(5, 5);
        Edges.statusIs(x, 3, 2, 1);
    }

    // ---- promise 3

    static void p03_rule_kindIs0To5() {
        Edges.bounds(0, 5, (x, kind) -> x.rule(kind, 0));
    }

    static void p03_rule_nIs0To9() {
        Edges.bounds(0, 9, (x, n) -> x.rule(0, n));
    }

    static void p03_rule_bothWrongCountOnce() {
        Edges.bad(x -> x.rule(6, 10));
        Edges.bad(x -> x.rule(-1, -1));
    }

    static void p03_rule_answersTheLawThatItWas() {
        OddFridays x = new OddFridays();
        Edges.due(0, x.rule(0, 9));
        Edges.due(9, x.rule(5, 0));
        Edges.due(50, x.rule(5, 9));
        Edges.due(59, x.rule(0, 0));
        Edges.due(0, x.count(1));
    }

    static void p03_rule_theLawAsItWasCanBeToldAndUndone() {
        OddFridays x = new OddFridays();
        Edges.due(0, x.rule(0, 0));
        Edges.due(1, x.count(4));
        Edges.due(0, x.undo());
    }

    static void p03_rule_changesNothingElse() {
        OddFridays x = Edges.led(Edges::full);
        long above = x.part(0);
        Edges.due(49, x.rule(2, 0));
        numbersAre(x, 40, 41, 42, 43, 44, 45, 46, 47);
        Edges.due(8, x.count(2));
        Edges.due(8, x.count(3));
        Edges.due(8, x.count(4));
        Edges.due(150, x.count(5));
        Edges.due(above, x.part(0));
        Edges.statusIs(x, 3, 2, 1);
    }

    // ---- promise 4

    static void p04_house_hIs0To7() {
        Edges.bounds(0, 7, (x, h) -> x.house(h, 1));
    }

    static void p04_house_xIs0To300() {
        Edges.bounds(0, 300, (x, number) -> x.house(0, number));
    }

    static void p04_house_bothWrongCountOnce() {
        Edges.bad(x -> x.house(8, 301));
        Edges.bad(x -> x.house(-1, -1));
    }

    static void p04_house_1And300MoveIn() {
        OddFridays x = new OddFridays();
        Edges.due(0, x.house(0, 1));
        Edges.due(0, x.house(7, 300));
        numbersAre(x, 1, 0, 0, 0, 0, 0, 0, 300);
        Edges.due(2, x.count(0));
    }

    static void p04_house_0MovesOut() {
        OddFridays x = Edges.row(0, 1, 0, 0, 0, 0, 0, 0, 300);
        Edges.due(300, x.house(7, 0));
        Edges.due(1, x.house(0, 0));
        numbersAre(x);
        Edges.due(0, x.count(0));
    }

    static void p04_house_outOfAnEmptyHouse() {
        OddFridays x = new OddFridays();
        Edges.due(0, x.house(0, 0));
        Edges.due(1, x.count(4));
        Edges.statusIs(x, 0, 0, 0);
        Edges.due(0, x.undo());
    }

    static void p04_house_oneMovesInWhereAnotherLived() {
        OddFridays x = Edges.row(0, 5);
        Edges.due(5, x.house(0, 300));
        Edges.due(300, x.house(0, 300));
        numbersAre(x, 300);
        Edges.due(3, x.count(4));
    }

    static void p04_house_inAQuarrelToo() {
        OddFridays x = Edges.row(0, 1);
        Edges.due(0, x.house(1, 300));
        Edges.due(1, x.quarrels(1));
    }

    static void p04_house_changesItsOwnHouseAlone() {
        for (int h = 0; h < 8; h++) {
            OddFridays x = Edges.row(0, 11, 12, 13, 14, 15, 16, 17, 18);
            Edges.due(11 + h, x.house(h, 99));
            for (int k = 0; k < 8; k++) {
                Edges.due(k == h ? 99 : 11 + k, x.of(k, 0));
            }
        }
    }

    // ---- promise 5

    static void p05_birthday_hIs0To7() {
        Edges.bounds(0, 7, (x, h) -> x.birthday(h));
    }

    static void p05_birthday_of1Is2() {
        OddFridays x = Edges.row(0, 1);
        Edges.due(2, x.birthday(0));
        numbersAre(x, 2);
    }

    static void p05_birthday_of299Is300() {
        OddFridays x = Edges.row(0, 0, 0, 0, 0, 0, 0, 0, 299);
        Edges.due(300, x.birthday(7));
        numbersAre(x, 0, 0, 0, 0, 0, 0, 0, 300);
    }

    static void p05_birthday_of300IsNo() {
        Edges.refused(Edges.rowWay(0, 300), x -> x.birthday(0), Edges.NO, Edges.NOES);
    }

    static void p05_birthday_ofNobodyIsNo() {
        Edges.refused(Edges::fresh, x -> x.birthday(0), Edges.NO, Edges.NOES);
        Edges.refused(Edges.rowWay(0, 5, 0, 5), x -> x.birthday(1), Edges.NO, Edges.NOES);
    }

    static void p05_birthday_canBeUndone() {
        OddFridays x = Edges.row(0, 299);
        x.birthday(0);
        Edges.due(2, x.count(4));
        Edges.due(1, x.undo());
        numbersAre(x, 299);
    }

    // ---- promise 6

    static void p06_swap_hIs0To7() {
        Edges.bounds(0, 7, (x, h) -> x.swap(h, 3));
    }

    static void p06_swap_kIs0To7() {
        Edges.bounds(0, 7, (x, k) -> x.swap(3, k));
    }

    static void p06_swap_alikeIsBad() {
        for (int h = 0; h < 8; h++) {
            int house = h;
            Edges.bad(x -> x.swap(house, house));
        }
    }

    static void p06_swap_alikeAndOutsideIsBadOnce() {
        Edges.bad(x -> x.swap(8, 8));
        Edges.bad(x -> x.swap(-1, -1));
        Edges.bad(x -> x.swap(-1, 8));
    }

    static void p06_swap_bothEmptyIsNo() {
        Edges.refused(Edges::fresh, x -> x.swap(0, 7), Edges.NO, Edges.NOES);
        Edges.refused(Edges.rowWay(0, 5, 0, 0, 6), x -> x.swap(2, 1), Edges.NO, Edges.NOES);
    }

    static void p06_swap_theFirstEmpty() {
        OddFridays x = Edges.row(0, 0, 0, 0, 0, 0, 0, 0, 300);
        Edges.due(1, x.swap(0, 7));
        numbersAre(x, 300);
    }

    static void p06_swap_theSecondEmpty() {
        OddFridays x = Edges.row(0, 300);
        Edges.due(1, x.swap(0, 7));
        numbersAre(x, 0, 0, 0, 0, 0, 0, 0, 300);
    }

    static void p06_swap_bothLivedIn() {
        OddFridays x = Edges.row(0, 1, 2, 3);
        Edges.due(1, x.swap(2, 0));
        numbersAre(x, 3, 2, 1);
    }

    static void p06_swap_likeNumbers() {
        OddFridays x = Edges.row(0, 9, 9);
        Edges.due(1, x.swap(0, 1));
        numbersAre(x, 9, 9);
        Edges.due(3, x.count(4));
    }

    static void p06_swap_canBeUndone() {
        OddFridays x = Edges.row(0, 1, 2);
        x.swap(0, 1);
        Edges.due(2, x.undo());
        numbersAre(x, 1, 2);
    }

    // ---- promise 7

    static void p07_undo_nothingYetIsNo() {
        Edges.refused(Edges::fresh, OddFridays::undo, Edges.NO, Edges.NOES);
    }

    static void p07_undo_behindTheLastOneIsNo() {
        Edges.Way way = x -> {
            Edges.lived(x);
            for (int i = 0; i < 8; i++) {
                x.undo();
            }
        };
        Edges.refused(way, OddFridays::undo, Edges.NO, Edges.NOES);
    }

    static void p07_undo_seventhEighthAndNinthStep() {
        OddFridays x = new OddFridays();
        for (int i = 1; i <= 7; i++) {
            x.house(0, i);
        }
        Edges.due(7, x.count(4));
        x.house(0, 8);
        Edges.due(8, x.count(4));
        x.house(0, 9);
        Edges.due(8, x.count(4));
    }

    static void p07_undo_eightStepsGoBackToTheStart() {
        OddFridays x = new OddFridays();
        for (int h = 0; h < 8; h++) {
            x.house(h, 300 - h);
        }
        for (int left = 7; left >= 0; left--) {
            Edges.due(left, x.undo());
            Edges.due(left, x.count(4));
        }
        numbersAre(x);
    }

    static void p07_undo_ofNineStepsTheFirstStays() {
        OddFridays x = new OddFridays();
        x.rule(3, 3);
        for (int h = 0; h < 8; h++) {
            x.house(h, 300 - h);
        }
        for (int left = 7; left >= 0; left--) {
            Edges.due(left, x.undo());
        }
        Edges.due(33, x.count(1));
        Edges.due(Edges.NO, x.undo());
        Edges.due(33, x.count(1));
    }

    static void p07_undo_manyMoreThanEight() {
        OddFridays x = new OddFridays();
        for (int i = 1; i <= 100; i++) {
            x.house(0, i);
        }
        for (int i = 99; i >= 92; i--) {
            x.undo();
            Edges.due(i, x.of(0, 0));
        }
        Edges.due(Edges.NO, x.undo());
        Edges.due(92, x.of(0, 0));
    }

    static void p07_undo_ofMovingIn() {
        OddFridays x = Edges.row(12);
        x.house(4, 300);
        Edges.due(0, x.undo());
        Edges.due(12, x.count(1));
        numbersAre(x);
    }

    static void p07_undo_ofMovingOut() {
        OddFridays x = Edges.row(12, 0, 0, 0, 0, 300);
        x.house(4, 0);
        Edges.due(1, x.undo());
        numbersAre(x, 0, 0, 0, 0, 300);
    }

    static void p07_undo_ofTheLaw() {
        OddFridays x = Edges.row(12, 5);
        x.rule(5, 9);
        Edges.due(1, x.undo());
        Edges.due(12, x.count(1));
        numbersAre(x, 5);
    }

    static void p07_undo_refusedCallsAreNoSteps() {
        OddFridays x = Edges.row(0, 300);
        x.rule(6, 0);
        x.house(8, 1);
        x.birthday(0);
        x.birthday(1);
        x.swap(0, 0);
        x.swap(1, 2);
        Edges.due(1, x.count(4));
        Edges.due(0, x.undo());
    }

    static void p07_undo_otherCallsAreNoSteps() {
        OddFridays x = Edges.row(0, 20, 0, 30);
        x.type('a');
        x.clear();
        x.reading(1, 1);
        x.note(1, 1, 1);
        x.forget(0);
        x.split(0);
        x.odds(5);
        x.streets(0, 30);
        x.image(0);
        x.read();
        Edges.due(2, x.count(4));
    }

    static void p07_undo_leavesReadingsNotesTextFractionStatus() {
        OddFridays x = Edges.led(Edges::full);
        long above = x.part(0);
        int who = x.who(0);
        int laws = x.laws(0);
        for (int i = 0; i < 8; i++) {
            x.undo();
        }
        Edges.due(8, x.count(2));
        Edges.due(who, x.who(0));
        Edges.due(8, x.count(3));
        Edges.due(laws, x.laws(0));
        Edges.due(150, x.count(5));
        Edges.due(above, x.part(0));
        Edges.statusIs(x, 3, 2, 1);
    }

    static void p07_undo_isNoStepItself() {
        OddFridays x = new OddFridays();
        x.house(0, 1);
        x.house(0, 2);
        x.undo();
        x.house(0, 3);
        Edges.due(2, x.count(4));
        x.undo();
        numbersAre(x, 1);
        x.undo();
        numbersAre(x);
    }

    // ---- promise 8

    static void p08_type_cIs0To127() {
        Edges.bounds(0, 127, (x, c) -> x.type(c));
    }

    static void p08_type_theFirstByte() {
        Edges.due(1, new OddFridays().type(0));
        Edges.due(1, new OddFridays().type(127));
    }

    static void p08_type_the150thIsTaken() {
        OddFridays x = new OddFridays();
        for (int i = 1; i <= 150; i++) {
            Edges.due(i, x.type(i % 128));
        }
        Edges.due(150, x.count(5));
        Edges.statusIs(x, 0, 0, 0);
    }

    static void p08_type_the151stIsFull() {
        Edges.due(150, Edges.FULL_TEXT.length());
        Edges.refused(Edges::full, x -> x.type(0), Edges.FULL, Edges.FULLS);
        Edges.refused(Edges::full, x -> x.type(127), Edges.FULL, Edges.FULLS);
    }

    static void p08_type_badIsAheadOfFull() {
        Edges.refused(Edges::full, x -> x.type(128), Edges.BAD, Edges.BADS);
        Edges.refused(Edges::full, x -> x.type(-1), Edges.BAD, Edges.BADS);
    }

    static void p08_type_goesOnBehindClear() {
        OddFridays x = Edges.led(Edges::full);
        x.clear();
        Edges.due(1, x.type(0));
    }

    static void p08_type_changesTheTextAlone() {
        OddFridays x = Edges.led(Edges::lived);
        x.type('s');
        numbersAre(x, 40, 41, 42, 43, 44, 45, 46, 47);
        Edges.due(8, x.count(4));
        Edges.statusIs(x, 3, 2, 1);
    }

    // ---- promise 9

    static void p09_clear_ofAnEmptyText() {
        Edges.asks(Edges::fresh, 0, OddFridays::clear);
        Edges.asks(Edges::lived, 0, OddFridays::clear);
    }

    static void p09_clear_ofAFullText() {
        OddFridays x = Edges.led(Edges::full);
        Edges.due(150, x.clear());
        Edges.due(0, x.count(5));
        Edges.due(0, x.clear());
        Edges.statusIs(x, 3, 2, 1);
    }

    static void p09_clear_ofOneByte() {
        OddFridays x = new OddFridays();
        x.type(0);
        Edges.due(1, x.clear());
        Edges.due(0, x.count(5));
    }

    static void p09_clear_nothingIsLeftToBeRead() {
        OddFridays x = Edges.led(Edges::full);
        x.clear();
        Edges.due(-10, x.read());
        Edges.type(x, "street 5 9");
        Edges.due(-20, x.read());
    }

    // ---- promise 11

    static void p11_of_hIs0To7() {
        Edges.bounds(0, 7, (x, h) -> x.of(h, 0));
        Edges.bounds(0, 7, (x, h) -> x.of(h, 4));
    }

    static void p11_of_whatIs0To4() {
        Edges.bounds(0, 4, (x, what) -> x.of(0, what));
        Edges.bounds(0, 4, (x, what) -> x.of(7, what));
    }

    static void p11_of_bothWrongCountOnce() {
        Edges.bad(x -> x.of(8, 5));
        Edges.bad(x -> x.of(-1, -1));
    }

    static void p11_of_anEmptyHouseIs0Each() {
        for (int h = 0; h < 8; h++) {
            for (int what = 0; what <= 4; what++) {
                int house = h;
                int asked = what;
                Edges.asks(Edges::fresh, 0, x -> x.of(house, asked));
            }
        }
    }

    static void p11_of_anEmptyHouseBetweenTwo() {
        Edges.Way way = Edges.rowWay(0, 2, 0, 4);
        for (int what = 0; what <= 4; what++) {
            int asked = what;
            Edges.asks(way, 0, x -> x.of(1, asked));
        }
    }

    static void p11_of_number1() {
        int[] due = {1, 0, 0, 1, 0};
        for (int what = 0; what <= 4; what++) {
            int asked = what;
            Edges.asks(Edges.rowWay(0, 1), due[what], x -> x.of(0, asked));
        }
    }

    static void p11_of_number300() {
        int[] due = {300, 568, 0, 0, 0};
        for (int what = 0; what <= 4; what++) {
            int asked = what;
            Edges.asks(Edges.rowWay(0, 0, 0, 0, 0, 0, 0, 0, 300), due[what], x -> x.of(7, asked));
        }
    }

    static void p11_of_quarrelsOnOneSideIsEnough() {
        OddFridays x = Edges.row(0, 3, 2, 4, 3, 5, 9, 7, 14);
        int[] due = {0, 1, 1, 0, 0, 0, 1, 1};
        for (int h = 0; h < 8; h++) {
            Edges.due(due[h], x.of(h, 4));
        }
    }

    // ---- promise 12

    static void p12_may_aIs1To300() {
        Edges.bounds(1, 300, (x, a) -> x.may(a, 7));
    }

    static void p12_may_bIs1To300() {
        Edges.bounds(1, 300, (x, b) -> x.may(7, b));
    }

    static void p12_may_bothWrongCountOnce() {
        Edges.bad(x -> x.may(0, 0));
        Edges.bad(x -> x.may(301, 301));
    }

    static void p12_may_1And300() {
        Edges.asks(Edges::fresh, 1, x -> x.may(1, 1));
        Edges.asks(Edges::fresh, 0, x -> x.may(1, 300));
        Edges.asks(Edges::fresh, 0, x -> x.may(300, 1));
        Edges.asks(Edges::fresh, 1, x -> x.may(300, 300));
    }

    static void p12_may_byTheLawAsItIs() {
        Edges.asks(Edges::full, 1, x -> x.may(100, 109));
        Edges.asks(Edges::full, 0, x -> x.may(100, 108));
    }

    public static void main(String[] args) {
        Edges.run(EdgeStreetTest.class);
    }
}
