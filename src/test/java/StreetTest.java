/** Promises 1 to 12: the street, its text, and who may live beside whom. */
public final class StreetTest {
    private static final Check CHECK = new Check("StreetTest");

    private static void newObject() {
        OddFridays x = new OddFridays();
        for (int h = 0; h < 8; h++) {
            CHECK.due("p1 of(h, 0)", x.of(h, 0), 0);
        }
        for (int what = 0; what <= 5; what++) {
            CHECK.due("p1 count", x.count(what), 0);
        }
        CHECK.due("p1 part(0)", x.part(0), 0);
        CHECK.due("p1 part(1)", x.part(1), 1);
        for (int what = 0; what <= 2; what++) {
            CHECK.due("p1 status", x.status(what), 0);
        }
        CHECK.due("p1 from(0)", x.from(0), -3);
        CHECK.due("p1 from(1)", x.from(1), -3);
    }

    private static void street() {
        OddFridays x = Check.streetOf(4, 9, 6, 0, 28, 300);
        x.reading(5, 1);
        x.note(1, 2, 0);
        x.odds(0);
        x.type('s');
        x.image(1);
        CHECK.refused(x, "p2 street(6, 0)", () -> x.street(6, 0), -2, 0);
        CHECK.refused(x, "p2 street(-1, 0)", () -> x.street(-1, 0), -2, 0);
        CHECK.refused(x, "p2 street(0, 10)", () -> x.street(0, 10), -2, 0);
        CHECK.refused(x, "p2 street(0, -1)", () -> x.street(0, -1), -2, 0);
        CHECK.due("p2 street(5, 9)", x.street(5, 9), 3);
        CHECK.due("p2 count(0)", x.count(0), 0);
        CHECK.due("p2 count(1)", x.count(1), 59);
        CHECK.due("p2 count(2)", x.count(2), 0);
        CHECK.due("p2 count(3)", x.count(3), 0);
        CHECK.due("p2 count(4)", x.count(4), 0);
        CHECK.due("p2 the text stays", x.count(5), 1);
        CHECK.due("p2 the fraction stays", x.part(0), 1);
        CHECK.due("p2 status stays", x.status(0), 4);
        CHECK.due("p2 images stay", x.from(1), 1);
        CHECK.due("p2 from the image", x.count(0), 3);
    }

    private static void rule() {
        OddFridays x = new OddFridays();
        CHECK.due("p3 rule(3, 7)", x.rule(3, 7), 0);
        CHECK.due("p3 rule(5, 9)", x.rule(5, 9), 37);
        CHECK.due("p3 rule(5, 9) again", x.rule(5, 9), 59);
        CHECK.due("p3 each can be undone", x.count(4), 3);
        CHECK.refused(x, "p3 rule(6, 0)", () -> x.rule(6, 0), -2, 0);
        CHECK.refused(x, "p3 rule(-1, 0)", () -> x.rule(-1, 0), -2, 0);
        CHECK.refused(x, "p3 rule(0, 10)", () -> x.rule(0, 10), -2, 0);
        CHECK.refused(x, "p3 rule(0, -1)", () -> x.rule(0, -1), -2, 0);
        x.undo();
        x.undo();
        CHECK.due("p3 undone", x.count(1), 37);
    }

    private static void house() {
        OddFridays x = new OddFridays();
        CHECK.due("p4 house(0, 1)", x.house(0, 1), 0);
        CHECK.due("p4 house(7, 300)", x.house(7, 300), 0);
        CHECK.due("p4 house(0, 2)", x.house(0, 2), 1);
        CHECK.due("p4 house(7, 0)", x.house(7, 0), 300);
        CHECK.due("p4 house(7, 0) again", x.house(7, 0), 0);
        CHECK.due("p4 each can be undone", x.count(4), 5);
        CHECK.due("p4 one lives there", x.count(0), 1);
        CHECK.refused(x, "p4 house(8, 1)", () -> x.house(8, 1), -2, 0);
        CHECK.refused(x, "p4 house(-1, 1)", () -> x.house(-1, 1), -2, 0);
        CHECK.refused(x, "p4 house(0, 301)", () -> x.house(0, 301), -2, 0);
        CHECK.refused(x, "p4 house(0, -1)", () -> x.house(0, -1), -2, 0);
    }

    private static void birthday() {
        OddFridays x = Check.streetOf(0, 0, 299, 0, 1);
        CHECK.due("p5 birthday(0)", x.birthday(0), 300);
        CHECK.due("p5 birthday(2)", x.birthday(2), 2);
        CHECK.due("p5 of(2, 0)", x.of(2, 0), 2);
        CHECK.due("p5 can be undone", x.count(4), 5);
        CHECK.refused(x, "p5 of 300", () -> x.birthday(0), -3, 1);
        CHECK.refused(x, "p5 of nobody", () -> x.birthday(1), -3, 1);
        CHECK.refused(x, "p5 birthday(8)", () -> x.birthday(8), -2, 0);
        CHECK.refused(x, "p5 birthday(-1)", () -> x.birthday(-1), -2, 0);
    }

    private static void swap() {
        OddFridays x = Check.streetOf(0, 0, 9, 8);
        CHECK.due("p6 swap(0, 1)", x.swap(0, 1), 1);
        CHECK.due("p6 of(0, 0)", x.of(0, 0), 8);
        CHECK.due("p6 swap(7, 1)", x.swap(7, 1), 1);
        CHECK.due("p6 of(7, 0)", x.of(7, 0), 9);
        CHECK.due("p6 of(1, 0)", x.of(1, 0), 0);
        CHECK.due("p6 can be undone", x.count(4), 4);
        CHECK.refused(x, "p6 both empty", () -> x.swap(2, 3), -3, 1);
        CHECK.refused(x, "p6 alike", () -> x.swap(0, 0), -2, 0);
        CHECK.refused(x, "p6 alike and empty", () -> x.swap(3, 3), -2, 0);
        CHECK.refused(x, "p6 swap(8, 0)", () -> x.swap(8, 0), -2, 0);
        CHECK.refused(x, "p6 swap(0, 8)", () -> x.swap(0, 8), -2, 0);
        CHECK.refused(x, "p6 swap(-1, 0)", () -> x.swap(-1, 0), -2, 0);
        CHECK.refused(x, "p6 swap(0, -1)", () -> x.swap(0, -1), -2, 0);
    }

    private static void undo() {
        OddFridays x = new OddFridays();
        CHECK.refused(x, "p7 nothing yet", x::undo, -3, 1);
        x.house(0, 10);
        x.rule(1, 1);
        x.birthday(0);
        x.swap(0, 5);
        x.reading(3, 1);
        x.note(3, 4, 1);
        CHECK.due("p7 of a swap", x.undo(), 1);
        CHECK.due("p7 swapped back", x.of(0, 0), 11);
        CHECK.due("p7 of a birthday", x.undo(), 1);
        CHECK.due("p7 younger", x.of(0, 0), 10);
        CHECK.due("p7 of a rule", x.undo(), 1);
        CHECK.due("p7 the law", x.count(1), 0);
        CHECK.due("p7 of moving in", x.undo(), 0);
        CHECK.due("p7 readings stay", x.count(2), 1);
        CHECK.due("p7 notes stay", x.count(3), 1);
        CHECK.refused(x, "p7 no more", x::undo, -3, 1);
        for (int i = 1; i <= 9; i++) {
            x.house(0, i);
        }
        CHECK.due("p7 eight at most", x.count(4), 8);
        for (int i = 8; i >= 1; i--) {
            x.undo();
            CHECK.due("p7 back to " + i, x.of(0, 0), i);
        }
        CHECK.refused(x, "p7 behind eight", x::undo, -3, 1);
    }

    private static void text() {
        OddFridays x = new OddFridays();
        CHECK.due("p9 clear of an empty one", x.clear(), 0);
        CHECK.due("p8 type(0)", x.type(0), 1);
        CHECK.due("p8 type(127)", x.type(127), 2);
        CHECK.refused(x, "p8 type(128)", () -> x.type(128), -2, 0);
        CHECK.refused(x, "p8 type(-1)", () -> x.type(-1), -2, 0);
        for (int i = 3; i <= 150; i++) {
            CHECK.due("p8 type(32)", x.type(32), i);
        }
        CHECK.refused(x, "p8 the 151st", () -> x.type(32), -4, 2);
        CHECK.refused(x, "p8 BAD ahead of FULL", () -> x.type(128), -2, 0);
        CHECK.due("p9 clear of a full one", x.clear(), 150);
        CHECK.due("p9 empty then", x.count(5), 0);
        CHECK.due("p8 type behind clear", x.type('a'), 1);
    }

    /** A text that has a fault at this place: nothing changes, STATUS neither. */
    private static void fault(String text, int place) {
        OddFridays x = Check.streetOf(4, 4, 1, 2, 3);
        x.note(1, 2, 0);
        Check.typeAll(x, text);
        CHECK.asks(x, "p10 '" + text + "'", x::read, -10 - place);
    }

    private static void told(String text, int items, int law, int... row) {
        OddFridays x = Check.streetOf(4, 4, 1, 2, 3, 4, 5, 6, 7, 8);
        x.reading(1, 0);
        x.note(1, 2, 0);
        x.odds(10);
        x.image(0);
        Check.typeAll(x, text);
        CHECK.due("p10 '" + text + "'", x.read(), items);
        CHECK.due("p10 law of '" + text + "'", x.count(1), law);
        for (int h = 0; h < 8; h++) {
            CHECK.due("p10 house " + h + " of '" + text + "'", x.of(h, 0), h < row.length ? row[h] : 0);
        }
        CHECK.due("p10 no readings", x.count(2), 0);
        CHECK.due("p10 no notes", x.count(3), 0);
        CHECK.due("p10 nothing to undo", x.count(4), 0);
        CHECK.due("p10 the text stays", x.count(5), text.length());
        CHECK.due("p10 images stay", x.from(0), 1);
        CHECK.due("p10 from the image", x.count(2), 1);
    }

    private static void read() {
        told("street 0 0;", 1, 0);
        told("street 5 9;house 0 1;house 7 300;", 3, 59, 1, 0, 0, 0, 0, 0, 0, 300);
        told("  street   3 4  ;  house 1 7 ; house 1 0;house 2 2; ", 4, 34, 0, 0, 2);
        told("street 005 009;house 007 012;", 2, 59, 0, 0, 0, 0, 0, 0, 0, 12);
        told("street4 4;house1 3;", 2, 44, 0, 3);
        OddFridays twice = new OddFridays();
        Check.typeAll(twice, "street 0 0;house 0 9;house 7 9;");
        twice.read();
        Check.typeAll(twice, "street 0 0;house 1 9;");
        twice.read();
        CHECK.due("p10 nothing is left of the text before", twice.of(0, 0) + twice.of(7, 0), 0);
        fault("", 0);
        fault("   ", 3);
        fault("street", 6);
        fault("street 1  ", 10);
        fault("street 1 1", 10);
        fault("street 1 1;house", 16);
        fault("street 1 1;house 1", 18);
        fault("street 1 1;house 1 1 ", 21);
        fault("stree 1 1;", 0);
        fault("streets 1 1;", 0);
        fault("ttreet 1 1;", 0);
        fault("streez 1 1;", 0);
        fault("streetaz 1 1;", 0);
        fault("street 1 1;house 1 1az;", 20);
        fault("street 1 1;mouse 1 1;", 11);
        fault(" Street 1 1;", 1);
        fault("street 6 1;", 7);
        fault("street 1 10;", 9);
        fault("street 0001 0;", 7);
        fault("street 1 0000;", 9);
        fault("street 1 1 1;", 11);
        fault("street 1;", 8);
        fault("street ; 1;", 7);
        fault("street 1 x;", 9);
        fault("street 1 -1;", 9);
        fault("street 1 1;;", 11);
        fault("street 1 1; street 1 1;", 12);
        fault("street 1 1;hou", 11);
        fault("street 1 1;housestreet 1 1;", 11);
        fault("street 1 1;house 8 1;", 17);
        fault("street 1 1;house 1 301;", 19);
        fault("street 1 1;house 1 0300;", 19);
        fault("street 1 1;house 1 1 house 2 2;", 21);
        fault("street 1 1;3", 11);
        fault("house 0 0;", 0);
        fault(" ;street 1 1;", 1);
        fault("3", 0);
        fault("street\t1 1;", 6);
        fault("street 1 1;" + (char) 0, 11);
        StringBuilder full = new StringBuilder("street 1 1;");
        while (full.length() < 147) {
            full.append("house 1 1;");
        }
        full.setLength(147);
        fault(full.toString(), 147);
    }

    private static void of() {
        OddFridays x = Check.streetOf(0, 0, 1, 284, 13, 0, 36, 0, 12, 6);
        long[][] due = {{1, 0, 0, 1, 1}, {284, 220, 0, 0, 1}, {13, 1, 1, 0, 0}, {0, 0, 0, 0, 0}, {36, 55, 0, 1, 0},
            {0, 0, 0, 0, 0}, {12, 16, 0, 0, 1}, {6, 6, 0, 0, 1}};
        for (int h = 0; h < 8; h++) {
            for (int what = 0; what < 5; what++) {
                int house = h;
                int asked = what;
                CHECK.asks(x, "p11 of(" + h + ", " + what + ")", () -> x.of(house, asked), due[h][what]);
            }
        }
        CHECK.refused(x, "p11 of(8, 0)", () -> x.of(8, 0), -2, 0);
        CHECK.refused(x, "p11 of(-1, 0)", () -> x.of(-1, 0), -2, 0);
        CHECK.refused(x, "p11 of(0, 5)", () -> x.of(0, 5), -2, 0);
        CHECK.refused(x, "p11 of(3, -1)", () -> x.of(3, -1), -2, 0);
        OddFridays last = Check.streetOf(0, 0, 300, 289, 256);
        CHECK.due("p11 parts of 300", last.of(0, 1), 568);
        CHECK.due("p11 parts of 289", last.of(1, 1), 18);
        CHECK.due("p11 289 is a square", last.of(1, 3), 1);
        CHECK.due("p11 300 is none", last.of(0, 3), 0);
        OddFridays ends = Check.streetOf(0, 0, 2, 0, 0, 0, 0, 0, 0, 4);
        CHECK.due("p11 houses 7 and 0 are not side by side", ends.of(0, 4) + ends.of(7, 4), 0);
    }

    private static void may(int kind, int n, int a, int b, int due) {
        OddFridays x = Check.streetOf(kind, n);
        String call = "p12 under " + kind + " " + n + " may(" + a + ", " + b + ")";
        CHECK.asks(x, call, () -> x.may(a, b), due);
        CHECK.asks(x, call + " turned", () -> x.may(b, a), due);
    }

    private static void mayAll() {
        may(0, 0, 1, 1, 1);
        may(0, 0, 1, 300, 0);
        may(0, 0, 150, 300, 0);
        may(0, 0, 200, 300, 1);
        may(0, 0, 7, 7, 1);
        may(1, 0, 4, 6, 1);
        may(1, 0, 4, 9, 0);
        may(1, 0, 4, 8, 0);
        may(1, 0, 9, 15, 1);
        may(2, 0, 4, 9, 1);
        may(2, 0, 5, 9, 0);
        may(2, 0, 5, 5, 0);
        may(2, 0, 1, 1, 1);
        may(2, 0, 4, 8, 0);
        may(3, 0, 4, 9, 1);
        may(3, 0, 4, 16, 1);
        may(3, 0, 1, 289, 1);
        may(3, 0, 4, 8, 0);
        may(3, 0, 4, 15, 0);
        may(3, 0, 15, 21, 1);
        may(4, 5, 4, 9, 1);
        may(4, 6, 4, 9, 0);
        may(4, 5, 4, 20, 0);
        may(4, 0, 4, 4, 1);
        may(4, 1, 4, 4, 0);
        may(5, 0, 220, 284, 1);
        may(5, 0, 6, 6, 1);
        may(5, 0, 7, 9, 0);
        may(5, 0, 7, 7, 0);
        may(5, 0, 4, 9, 1);
        may(5, 0, 1, 7, 0);
        OddFridays x = new OddFridays();
        CHECK.refused(x, "p12 may(0, 1)", () -> x.may(0, 1), -2, 0);
        CHECK.refused(x, "p12 may(1, 0)", () -> x.may(1, 0), -2, 0);
        CHECK.refused(x, "p12 may(301, 1)", () -> x.may(301, 1), -2, 0);
        CHECK.refused(x, "p12 may(1, 301)", () -> x.may(1, 301), -2, 0);
    }

    public static void main(String[] args) {
        newObject();
        street();
        rule();
        house();
        birthday();
        swap();
        undo();
        text();
        read();
        of();
        mayAll();
        CHECK.end();
    }
}
