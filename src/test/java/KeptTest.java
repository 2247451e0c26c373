/** Promises 31 to 36: the fraction, images, what was refused, counts and the digest. */
public final class KeptTest {
    private static final Check CHECK = new Check("KeptTest");

    private static void part() {
        OddFridays x = Check.streetOf(0, 0, 2, 4);
        CHECK.asks(x, "p31 above at first", () -> x.part(0), 0);
        CHECK.asks(x, "p31 below at first", () -> x.part(1), 1);
        x.odds(5);
        CHECK.asks(x, "p31 above", () -> x.part(0), 3);
        CHECK.asks(x, "p31 below", () -> x.part(1), 4);
        CHECK.refused(x, "p31 part(2)", () -> (int) x.part(2), -2, 0);
        CHECK.refused(x, "p31 part(-1)", () -> (int) x.part(-1), -2, 0);
    }

    private static void images() {
        OddFridays x = Check.streetOf(4, 5, 6, 0, 300);
        x.reading(7, 1);
        x.note(1, 2, 0);
        CHECK.refused(x, "p32 image(2)", () -> x.image(2), -2, 0);
        CHECK.refused(x, "p32 image(-1)", () -> x.image(-1), -2, 0);
        CHECK.refused(x, "p33 from(2)", () -> x.from(2), -2, 0);
        CHECK.refused(x, "p33 from(-1)", () -> x.from(-1), -2, 0);
        CHECK.refused(x, "p33 none was kept", () -> x.from(0), -3, 1);
        long kept = x.digest();
        CHECK.asks(x, "p32 image(0)", () -> x.image(0), 1);
        CHECK.refused(x, "p33 none was kept in 1", () -> x.from(1), -3, 1);
        x.street(0, 0);
        x.house(3, 3);
        x.reading(8, 0);
        x.reading(9, 0);
        x.note(2, 3, 1);
        x.forget(1);
        x.image(1);
        CHECK.due("p33 from(0)", x.from(0), 1);
        CHECK.due("p33 all as it was", x.digest(), kept);
        CHECK.due("p33 what may be undone", x.count(4), 3);
        CHECK.due("p33 undo goes on", x.undo(), 1);
        x.house(0, 9);
        CHECK.due("p33 the image is kept still", x.from(0), 1);
        CHECK.due("p33 and is not touched", x.digest(), kept);
        CHECK.due("p33 from(1)", x.from(1), 1);
        CHECK.due("p33 the other one", x.of(3, 0), 3);
        CHECK.due("p33 its readings", x.count(2), 2);
        x.type('a');
        x.odds(0);
        CHECK.due("p33 back", x.from(0), 1);
        CHECK.due("p33 the text is not kept", x.count(5), 1);
        CHECK.due("p33 the fraction is not kept", x.part(0), 1);
        CHECK.due("p33 status is not kept", x.status(1), 2);
        x.house(7, 7);
        CHECK.due("p32 an image anew", x.image(0), 1);
        x.house(7, 8);
        x.from(0);
        CHECK.due("p32 the newer one", x.of(7, 0), 7);
        for (int i = 1; i <= 9; i++) {
            x.house(6, i);
        }
        x.image(1);
        x.street(0, 0);
        x.from(1);
        for (int i = 8; i >= 1; i--) {
            x.undo();
            CHECK.due("p33 all eight steps back, to " + i, x.of(6, 0), i);
        }
    }

    private static void status() {
        OddFridays x = new OddFridays();
        CHECK.refused(x, "p34 status(3)", () -> x.status(3), -1, 0);
        CHECK.refused(x, "p34 status(-1)", () -> x.status(-1), -1, 0);
        x.undo();
        for (int i = 0; i < 11; i++) {
            x.reading(1, 0);
        }
        CHECK.asks(x, "p34 BAD", () -> x.status(0), 2);
        CHECK.asks(x, "p34 NO", () -> x.status(1), 1);
        CHECK.asks(x, "p34 FULL", () -> x.status(2), 3);
        x.orders(8);
        x.who(2);
        x.laws(2);
        CHECK.asks(x, "p34 the BAD of -10", () -> x.status(0), 5);
        x.read();
        x.moved();
        x.meet();
        x.next(0);
        x.split(0);
        CHECK.asks(x, "p34 neither faults nor NONE", () -> x.status(0) + x.status(1) + x.status(2), 9);
        x.street(1, 1);
        CHECK.asks(x, "p34 it stays", () -> x.status(0), 5);
    }

    private static void count() {
        OddFridays x = Check.streetOf(3, 8, 5, 0, 7);
        x.reading(1, 1);
        x.reading(2, 0);
        x.note(1, 1, 1);
        for (int i = 0; i < 4; i++) {
            x.type('h');
        }
        int[] due = {2, 38, 2, 1, 3, 4};
        for (int what = 0; what <= 5; what++) {
            int asked = what;
            CHECK.asks(x, "p35 count(" + what + ")", () -> x.count(asked), due[what]);
        }
        CHECK.refused(x, "p35 count(6)", () -> x.count(6), -2, 0);
        CHECK.refused(x, "p35 count(-1)", () -> x.count(-1), -2, 0);
    }

    private static long fold(long... values) {
        long h = 1013;
        for (long v : values) {
            h = 31 * h + v;
        }
        return h;
    }

    private static void digest() {
        OddFridays x = new OddFridays();
        CHECK.due("p36 at first", x.digest(), fold(0, 0, 0, 0, 0, 0, 0, 0, 0, 0, 0, 0, 0, 0, 0, 1));
        x.rule(4, 3);
        x.house(0, 2);
        x.house(1, 4);
        x.reading(9, 1);
        x.rule(5, 0);
        x.reading(8, 0);
        x.note(11, 12, 1);
        x.note(13, 14, 0);
        x.type(';');
        x.rule(0, 0);
        x.odds(5);
        x.status(9);
        long due = fold(2, 0, 2, 2, 5, 1, 2, 4, 0, 0, 0, 0, 0, 0, 9, 1, 43, 8, 0, 50, 11, 12, 1, 13, 14, 0, 3, 4);
        CHECK.asks(x, "p36 of all there is", x::digest, due);
    }

    public static void main(String[] args) {
        part();
        images();
        status();
        count();
        digest();
        CHECK.end();
    }
}
