/** Promises 22 to 30: strangers, laws told from notes, splits, odds and streets by a seed. */
public final class StrangersTest {
    private static final Check CHECK = new Check("StrangersTest");

    private static void reading() {
        OddFridays x = new OddFridays();
        CHECK.refused(x, "p22 reading(0, 0)", () -> x.reading(0, 0), -2, 0);
        CHECK.refused(x, "p22 reading(301, 0)", () -> x.reading(301, 0), -2, 0);
        CHECK.refused(x, "p22 reading(1, 2)", () -> x.reading(1, 2), -2, 0);
        CHECK.refused(x, "p22 reading(1, -1)", () -> x.reading(1, -1), -2, 0);
        for (int i = 1; i <= 8; i++) {
            CHECK.due("p22 reading", x.reading(i == 8 ? 300 : i, i % 2), i);
        }
        CHECK.refused(x, "p22 the ninth", () -> x.reading(1, 0), -4, 2);
        CHECK.refused(x, "p22 BAD ahead of FULL", () -> x.reading(0, 0), -2, 0);
        CHECK.due("p22 not to be undone", x.count(4), 0);
    }

    private static void who() {
        OddFridays x = new OddFridays();
        CHECK.asks(x, "p23 anybody", () -> x.who(0), 300);
        CHECK.asks(x, "p23 the least", () -> x.who(1), 1);
        x.reading(7, 0);
        CHECK.asks(x, "p23 divisors and multiples of 7 but 7", () -> x.who(0), 1 + 41);
        x.reading(2, 1);
        CHECK.asks(x, "p23 odd ones", () -> x.who(0), 20);
        CHECK.asks(x, "p23 the least of them", () -> x.who(1), 21);
        x.rule(3, 0);
        CHECK.asks(x, "p23 readings keep the law of their time", () -> x.who(0), 20);
        x.reading(4, 1);
        CHECK.asks(x, "p23 squares among them", () -> x.who(1), 49);
        x.reading(4, 0);
        CHECK.asks(x, "p23 none", () -> x.who(0), 0);
        CHECK.asks(x, "p23 no least", () -> x.who(1), -1);
        CHECK.refused(x, "p23 who(2)", () -> x.who(2), -10, 0);
        CHECK.refused(x, "p23 who(-1)", () -> x.who(-1), -10, 0);
    }

    private static void tryNext() {
        OddFridays x = new OddFridays();
        CHECK.asks(x, "p24 halves by 2", x::tryNext, 2);
        x.reading(2, 1);
        CHECK.asks(x, "p24 then by 3", x::tryNext, 3);
        x.rule(4, 9);
        x.reading(2, 0);
        CHECK.asks(x, "p24 of 2, 3, 5, 7, 9 two may live beside 13", x::tryNext, 13);
        x.reading(2, 1);
        CHECK.asks(x, "p24 none", x::tryNext, -1);
        OddFridays single = Check.streetOf(4, 9);
        single.reading(1, 1);
        CHECK.due("p24 nobody but 1 bears 1, and he is shy", single.who(0), 0);
        OddFridays sure = new OddFridays();
        sure.reading(1, 1);
        CHECK.asks(sure, "p24 he is 1", () -> sure.who(0), 1);
        CHECK.asks(sure, "p24 any x parts one alike", sure::tryNext, 1);
    }

    private static void note() {
        OddFridays x = new OddFridays();
        CHECK.refused(x, "p25 note(0, 1, 0)", () -> x.note(0, 1, 0), -2, 0);
        CHECK.refused(x, "p25 note(301, 1, 0)", () -> x.note(301, 1, 0), -2, 0);
        CHECK.refused(x, "p25 note(1, 0, 0)", () -> x.note(1, 0, 0), -2, 0);
        CHECK.refused(x, "p25 note(1, 301, 0)", () -> x.note(1, 301, 0), -2, 0);
        CHECK.refused(x, "p25 note(1, 1, 2)", () -> x.note(1, 1, 2), -2, 0);
        CHECK.refused(x, "p25 note(1, 1, -1)", () -> x.note(1, 1, -1), -2, 0);
        for (int i = 1; i <= 8; i++) {
            CHECK.due("p25 note", x.note(i, 300, i % 2), i);
        }
        CHECK.refused(x, "p25 the ninth", () -> x.note(1, 1, 0), -4, 2);
        CHECK.refused(x, "p25 BAD ahead of FULL", () -> x.note(0, 1, 0), -2, 0);
        CHECK.due("p25 not to be undone", x.count(4), 0);
    }

    private static void laws() {
        OddFridays x = Check.streetOf(5, 5);
        CHECK.asks(x, "p26 all", () -> x.laws(0), 60);
        CHECK.asks(x, "p26 the first of all", () -> x.laws(1), 0);
        x.note(2, 4, 1);
        CHECK.asks(x, "p26 just one note", () -> x.laws(0), 0);
        x.forget(1);
        x.note(220, 284, 1);
        x.note(5, 7, 0);
        CHECK.asks(x, "p26 PRIME, SHY from 3 on, FRIEND", () -> x.laws(0), 10 + 7 + 10);
        CHECK.asks(x, "p26 the first", () -> x.laws(1), 20);
        x.note(5, 5, 0);
        x.note(5, 12, 1);
        CHECK.asks(x, "p26 SHY 3 to 7", () -> x.laws(0), 5);
        CHECK.asks(x, "p26 the first SHY", () -> x.laws(1), 43);
        x.note(2, 4, 1);
        CHECK.asks(x, "p26 none", () -> x.laws(0), 0);
        CHECK.asks(x, "p26 no first", () -> x.laws(1), -1);
        CHECK.refused(x, "p26 laws(2)", () -> x.laws(2), -10, 0);
        CHECK.refused(x, "p26 laws(-1)", () -> x.laws(-1), -10, 0);
    }

    private static void forget() {
        OddFridays x = new OddFridays();
        x.reading(5, 1);
        x.reading(6, 1);
        x.note(1, 2, 1);
        CHECK.refused(x, "p27 forget(2)", () -> x.forget(2), -2, 0);
        CHECK.refused(x, "p27 forget(-1)", () -> x.forget(-1), -2, 0);
        CHECK.due("p27 readings", x.forget(0), 2);
        CHECK.due("p27 no readings", x.count(2), 0);
        CHECK.due("p27 notes stay", x.count(3), 1);
        CHECK.due("p27 notes", x.forget(1), 1);
        CHECK.due("p27 no notes", x.count(3), 0);
        CHECK.due("p27 again", x.forget(1), 0);
        CHECK.due("p27 anybody again", x.who(0), 300);
        CHECK.due("p27 all laws again", x.laws(0), 60);
    }

    private static void split() {
        OddFridays x = Check.streetOf(0, 0, 6, 4, 9, 0, 12, 3, 0, 25);
        CHECK.asks(x, "p28 3 and 3 in the next empty one", () -> x.split(0), 3);
        CHECK.asks(x, "p28 nobody there", () -> x.split(3), -1);
        CHECK.asks(x, "p28 from behind round to the first", () -> x.split(7), 1);
        CHECK.asks(x, "p28 12, 1, 2 and 25 in a row", () -> x.split(5), 2);
        CHECK.refused(x, "p28 split(8)", () -> x.split(8), -2, 0);
        CHECK.refused(x, "p28 split(-1)", () -> x.split(-1), -2, 0);
        OddFridays round = Check.streetOf(0, 0, 0, 7, 0, 5, 5, 5, 5, 14);
        CHECK.asks(round, "p28 round to house 0, not 2", () -> round.split(7), 0);
        OddFridays one = Check.streetOf(0, 0, 1);
        CHECK.asks(one, "p28 1 can't be split", () -> one.split(0), -1);
        OddFridays two = Check.streetOf(4, 9, 2);
        CHECK.asks(two, "p28 the law counts", () -> two.split(0), 1);
        OddFridays full = Check.streetOf(0, 0, 10, 9, 10, 9, 10, 9, 10, 9);
        CHECK.asks(full, "p28 no house is empty", () -> full.split(0), -1);
        OddFridays odd = Check.streetOf(0, 0, 0, 3, 0, 0, 0, 5);
        CHECK.asks(odd, "p28 the less stays, the rest moves on", () -> odd.split(1), 1);
    }

    private static void odds(OddFridays x, int o, long above, long below) {
        CHECK.due("p29 odds(" + o + ")", x.odds(o), 1);
        CHECK.due("p29 above of " + o, x.part(0), above);
        CHECK.due("p29 below of " + o, x.part(1), below);
    }

    private static void oddsAll() {
        OddFridays x = Check.streetOf(0, 0, 2, 4);
        odds(x, 0, 0, 1);
        odds(x, 10, 1, 1);
        odds(x, 5, 3, 4);
        odds(x, 1, 19, 100);
        odds(x, 7, 91, 100);
        CHECK.due("p29 nobody is older", x.of(0, 0), 2);
        odds(Check.streetOf(0, 0, 300, 150), 5, 1, 2);
        odds(Check.streetOf(0, 0, 300, 300), 3, 1, 1);
        odds(new OddFridays(), 3, 1, 1);
        odds(Check.streetOf(0, 0, 2, 0, 4), 3, 1, 1);
        odds(Check.streetOf(1, 0, 9, 15, 9, 15, 9, 15, 9, 15), 1, 21523361, 50000000);
        CHECK.refused(x, "p29 odds(11)", () -> x.odds(11), -2, 0);
        CHECK.refused(x, "p29 odds(-1)", () -> x.odds(-1), -2, 0);
    }

    private static void streets() {
        OddFridays x = Check.streetOf(4, 5);
        CHECK.asks(x, "p30 streets(0, 0)", () -> x.streets(0, 0), 0);
        CHECK.asks(x, "p30 streets(0, 9)", () -> x.streets(0, 9), 5);
        CHECK.asks(x, "p30 streets(999999, 30)", () -> x.streets(999999, 30), 19);
        CHECK.refused(x, "p30 streets(-1, 0)", () -> x.streets(-1, 0), -2, 0);
        CHECK.refused(x, "p30 streets(1000000, 0)", () -> x.streets(1000000, 0), -2, 0);
        CHECK.refused(x, "p30 streets(0, 31)", () -> x.streets(0, 31), -2, 0);
        CHECK.refused(x, "p30 streets(0, -1)", () -> x.streets(0, -1), -2, 0);
    }

    public static void main(String[] args) {
        reading();
        who();
        tryNext();
        note();
        laws();
        forget();
        split();
        oddsAll();
        streets();
        CHECK.end();
    }
}
