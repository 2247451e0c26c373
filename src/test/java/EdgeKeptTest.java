/** The edges of promises 31 to 36: the fraction, images, what was refused, counts and the digest. */
public final class EdgeKeptTest {
    private static long fold(long... values) {
        long h = 1013;
        for (long v : values) {
            h = 31 * h + v;
        }
        return h;
    }

    // ---- promise 31

    static void p31_part_whatIs0And1() {
        Edges.bounds(0, 1, (x, what) -> x.part(what));
    }

    static void p31_part_0By1AtFirst() {
        Edges.asks(Edges::fresh, 0, x -> x.part(0));
        Edges.asks(Edges::fresh, 1, x -> x.part(1));
    }

    static void p31_part_afterOdds() {
        Edges.Way way = x -> {
            Edges.rowWay(0, 2, 4).lead(x);
            x.odds(1);
        };
        Edges.asks(way, 19, x -> x.part(0));
        Edges.asks(way, 100, x -> x.part(1));
    }

    static void p31_part_theGreatestBelow() {
        OddFridays x = Edges.row(10, 2, 4, 2, 4, 2, 4, 2, 4);
        x.odds(1);
        Edges.due(1, x.part(0));
        Edges.due(100000000, x.part(1));
    }

    static void p31_part_staysWhenTheStreetChanges() {
        OddFridays x = Edges.row(0, 2, 4);
        x.odds(5);
        x.house(0, 0);
        x.rule(5, 5);
        x.undo();
        Edges.due(3, x.part(0));
        Edges.due(4, x.part(1));
    }

    // ---- promise 32

    static void p32_image_iIs0And1() {
        Edges.bounds(0, 1, (x, i) -> x.image(i));
    }

    static void p32_image_ofANewObject() {
        OddFridays x = new OddFridays();
        Edges.due(1, x.image(0));
        x.house(0, 7);
        Edges.due(Edges.NO, x.from(1));
        Edges.due(1, x.from(0));
        Edges.due(0, x.count(0));
        Edges.due(0, x.count(4));
    }

    static void p32_image_changesNothingElse() {
        Edges.Way kept = x -> {
            Edges.full(x);
            x.image(1);
        };
        Edges.asks(kept, 1, x -> x.image(1));
    }

    static void p32_image_aSecondTakesThePlaceOfTheFirst() {
        OddFridays x = Edges.row(0, 7);
        x.image(0);
        x.house(0, 8);
        Edges.due(1, x.image(0));
        x.house(0, 9);
        x.from(0);
        Edges.due(8, x.of(0, 0));
    }

    static void p32_image_eachByItself() {
        OddFridays x = Edges.row(0, 7);
        x.image(0);
        x.house(0, 8);
        x.image(1);
        x.house(0, 9);
        x.from(0);
        Edges.due(7, x.of(0, 0));
        x.from(1);
        Edges.due(8, x.of(0, 0));
    }

    static void p32_image_isNoStep() {
        OddFridays x = Edges.row(0, 7);
        x.image(0);
        Edges.due(1, x.count(4));
    }

    // ---- promise 33

    static void p33_from_iIs0And1() {
        Edges.bounds(0, 1, (x, i) -> x.from(i));
    }

    static void p33_from_noneWasKeptIsNo() {
        Edges.refused(Edges::fresh, x -> x.from(0), Edges.NO, Edges.NOES);
        Edges.refused(Edges::fresh, x -> x.from(1), Edges.NO, Edges.NOES);
        Edges.refused(Edges.rowWay(59, 1, 2), x -> x.from(0), Edges.NO, Edges.NOES);
    }

    static void p33_from_theOtherWasKeptIsNo() {
        Edges.refused(x -> x.image(0), x -> x.from(1), Edges.NO, Edges.NOES);
        Edges.refused(x -> x.image(1), x -> x.from(0), Edges.NO, Edges.NOES);
    }

    static void p33_from_aRefusedImageIsNotKept() {
        OddFridays x = new OddFridays();
        x.image(2);
        x.image(-1);
        Edges.due(Edges.NO, x.from(0));
        Edges.due(Edges.NO, x.from(1));
    }

    static void p33_from_goesOnAsOftenAsOneLikes() {
        OddFridays x = Edges.led(Edges::full);
        x.image(0);
        long kept = x.digest();
        for (int i = 0; i < 3; i++) {
            x.street(5, 5);
            Edges.due(1, x.from(0));
            Edges.due(kept, x.digest());
            x.house(0, i);
            x.rule(1, i);
            x.forget(0);
            x.forget(1);
            x.undo();
        }
    }

    static void p33_from_bringsAllEightStepsBack() {
        OddFridays x = Edges.row(0);
        for (int i = 1; i <= 9; i++) {
            x.house(6, i);
        }
        x.image(1);
        x.street(0, 0);
        for (int i = 1; i <= 9; i++) {
            x.rule(3, i);
            x.image(0);
        }
        x.from(1);
        Edges.due(8, x.count(4));
        for (int i = 8; i >= 1; i--) {
            x.undo();
            Edges.due(i, x.of(6, 0));
        }
        Edges.due(Edges.NO, x.undo());
    }

    static void p33_from_isNoStepItself() {
        OddFridays x = Edges.row(0, 7);
        x.image(0);
        x.house(0, 8);
        x.house(0, 9);
        x.from(0);
        Edges.due(1, x.count(4));
        Edges.due(0, x.undo());
    }

    static void p33_from_bringsReadingsWithTheirLawsBack() {
        OddFridays x = Edges.led(Edges::full);
        int who = x.who(0);
        x.image(0);
        x.forget(0);
        x.rule(0, 0);
        x.reading(1, 1);
        x.from(0);
        Edges.due(8, x.count(2));
        Edges.due(who, x.who(0));
    }

    static void p33_from_bringsNotesBack() {
        OddFridays x = new OddFridays();
        x.note(4, 16, 1);
        x.image(0);
        x.forget(1);
        x.note(1, 2, 1);
        x.from(0);
        Edges.due(1, x.count(3));
        Edges.due(10, x.laws(0));
    }

    static void p33_from_bringsTheLawBack() {
        OddFridays x = Edges.row(59);
        x.image(0);
        x.rule(0, 0);
        x.from(0);
        Edges.due(59, x.count(1));
    }

    static void p33_from_theTextIsNotKept() {
        OddFridays x = new OddFridays();
        x.type('a');
        x.image(0);
        x.type('b');
        x.from(0);
        Edges.due(2, x.count(5));
        x.clear();
        x.from(0);
        Edges.due(0, x.count(5));
    }

    static void p33_from_theFractionIsNotKept() {
        OddFridays x = Edges.row(0, 2, 4);
        x.image(0);
        x.odds(5);
        x.from(0);
        Edges.due(3, x.part(0));
        Edges.due(4, x.part(1));
    }

    static void p33_from_statusIsNotKept() {
        OddFridays x = new OddFridays();
        x.image(0);
        x.undo();
        x.status(3);
        x.from(0);
        Edges.statusIs(x, 1, 1, 0);
    }

    static void p33_from_otherImagesAreNotKept() {
        OddFridays x = Edges.row(0, 7);
        x.image(0);
        x.house(0, 8);
        x.image(1);
        x.from(0);
        Edges.due(1, x.from(1));
        Edges.due(8, x.of(0, 0));
    }

    // ---- promise 34

    static void p34_status_whatIs0To2() {
        Edges.boundsAs(-1, 0, 2, (x, what) -> x.status(what));
    }

    static void p34_status_anotherWhatIsMinus1AndCountsAsBad() {
        Edges.badAs(-1, x -> x.status(3));
        Edges.badAs(-1, x -> x.status(-1));
    }

    static void p34_status_nothingRefusedYet() {
        Edges.statusIs(new OddFridays(), 0, 0, 0);
    }

    static void p34_status_eachCountsByItself() {
        OddFridays x = new OddFridays();
        x.house(8, 0);
        Edges.statusIs(x, 1, 0, 0);
        x.undo();
        Edges.statusIs(x, 1, 1, 0);
        for (int i = 0; i < 9; i++) {
            x.reading(1, 1);
        }
        Edges.statusIs(x, 1, 1, 1);
    }

    static void p34_status_badToldAsMinus10CountsAsBad() {
        OddFridays x = new OddFridays();
        x.orders(8);
        x.who(2);
        x.laws(2);
        Edges.statusIs(x, 3, 0, 0);
    }

    static void p34_status_badOfPartCounts() {
        OddFridays x = new OddFridays();
        Edges.due(-2, x.part(2));
        Edges.statusIs(x, 1, 0, 0);
    }

    static void p34_status_noneIsNotCounted() {
        OddFridays x = Edges.row(0, 1, 2);
        x.moved();
        x.orders(0);
        x.note(1, 2, 1);
        x.laws(1);
        x.house(0, 2);
        x.meet();
        x.split(5);
        x.rule(2, 0);
        x.reading(7, 1);
        x.who(1);
        x.tryNext();
        x.street(0, 0);
        x.next(0);
        Edges.statusIs(x, 0, 0, 0);
    }

    static void p34_status_aFaultIsNotCounted() {
        OddFridays x = new OddFridays();
        x.read();
        x.type('?');
        x.read();
        Edges.statusIs(x, 0, 0, 0);
    }

    static void p34_status_takenCallsAreNotCounted() {
        OddFridays x = Edges.row(0, 5);
        x.type(0);
        x.reading(1, 1);
        x.image(0);
        x.from(0);
        x.undo();
        Edges.statusIs(x, 0, 0, 0);
    }

    static void p34_status_manyRefusals() {
        OddFridays x = new OddFridays();
        for (int i = 0; i < 150; i++) {
            x.may(0, 0);
            x.undo();
        }
        Edges.statusIs(x, 150, 150, 0);
    }

    // ---- promise 35

    static void p35_count_whatIs0To5() {
        Edges.bounds(0, 5, (x, what) -> x.count(what));
    }

    static void p35_count_nothingThereYet() {
        for (int what = 0; what <= 5; what++) {
            int asked = what;
            Edges.asks(Edges::fresh, 0, x -> x.count(asked));
        }
    }

    static void p35_count_allPlacesTaken() {
        int[] due = {8, 49, 8, 8, 8, 150};
        for (int what = 0; what <= 5; what++) {
            int asked = what;
            Edges.asks(Edges::full, due[what], x -> x.count(asked));
        }
    }

    static void p35_count_theGreatestLaw() {
        Edges.asks(Edges.rowWay(59), 59, x -> x.count(1));
    }

    static void p35_count_eachOfSixByItself() {
        OddFridays x = Edges.row(38, 5, 0, 7);
        x.reading(1, 1);
        x.type('h');
        x.type('h');
        x.type('h');
        x.type('h');
        x.type('h');
        x.note(1, 1, 1);
        x.note(1, 1, 1);
        x.note(1, 1, 1);
        x.note(1, 1, 1);
        x.house(1, 9);
        x.undo();
        x.house(2, 0);
        int[] due = {1, 38, 1, 4, 3, 5};
        for (int what = 0; what <= 5; what++) {
            Edges.due(due[what], x.count(what));
        }
    }

    // ---- promise 36

    static void p36_digest_ofANewObject() {
        Edges.asks(Edges::fresh, fold(0, 0, 0, 0, 0, 0, 0, 0, 0, 0, 0, 0, 0, 0, 0, 1), OddFridays::digest);
    }

    static void p36_digest_allPlacesTaken() {
        long[] values = new long[6 + 8 + 24 + 24 + 2];
        int at = 0;
        for (int v : new int[] {8, 49, 8, 8, 8, 150, 40, 41, 42, 43, 44, 45, 46, 47}) {
            values[at++] = v;
        }
        for (int i = 0; i < 8; i++) {
            values[at++] = 10 + i;
            values[at++] = i % 2;
            values[at++] = 37;
        }
        for (int i = 0; i < 8; i++) {
            values[at++] = 100 + i;
            values[at++] = 200 + i;
            values[at++] = 1 - i % 2;
        }
        OddFridays x = Edges.led(Edges::full);
        values[at++] = x.part(0);
        values[at++] = x.part(1);
        Edges.due(fold(values), x.digest());
    }

    static void p36_digest_oneReadingAndOneNote() {
        OddFridays x = Edges.row(59);
        x.reading(300, 1);
        x.note(299, 298, 0);
        Edges.due(fold(0, 59, 1, 1, 0, 0, 0, 0, 0, 0, 0, 0, 0, 0, 300, 1, 59, 299, 298, 0, 0, 1), x.digest());
    }

    static void p36_digest_ofAReadingOrANoteAlone() {
        OddFridays x = new OddFridays();
        x.reading(7, 0);
        Edges.due(fold(0, 0, 1, 0, 0, 0, 0, 0, 0, 0, 0, 0, 0, 0, 7, 0, 0, 0, 1), x.digest());
        x.forget(0);
        x.note(1, 2, 1);
        Edges.due(fold(0, 0, 0, 1, 0, 0, 0, 0, 0, 0, 0, 0, 0, 0, 1, 2, 1, 0, 1), x.digest());
    }

    static void p36_digest_forgottenOnesDoNotCount() {
        OddFridays x = new OddFridays();
        long before = x.digest();
        x.reading(5, 1);
        x.note(1, 2, 0);
        x.forget(0);
        x.forget(1);
        Edges.due(before, x.digest());
    }

    static void p36_digest_statusAndImagesDoNotCount() {
        OddFridays x = new OddFridays();
        long before = x.digest();
        x.undo();
        x.status(9);
        x.image(0);
        Edges.due(before, x.digest());
    }

    static void p36_digest_ofTheTextItsLengthAlone() {
        OddFridays one = new OddFridays();
        OddFridays other = new OddFridays();
        one.type(0);
        other.type(127);
        Edges.due(one.digest(), other.digest());
    }

    static void p36_digest_ofTheGreatestLaw() {
        Edges.due(fold(0, 59, 0, 0, 0, 0, 0, 0, 0, 0, 0, 0, 0, 0, 0, 1), Edges.row(59).digest());
    }

    public static void main(String[] args) {
        Edges.run(EdgeKeptTest.class);
    }
}
