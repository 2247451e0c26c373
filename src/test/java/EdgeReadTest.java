/** The edges of promise 10: texts that are read, and the place of each fault. */
public final class EdgeReadTest {
    private static Edges.Way typed(String text) {
        return x -> {
            Edges.lived(x);
            Edges.type(x, text);
        };
    }

    /** The fault's place; all stays, STATUS too. */
    private static void fault(int place, String text) {
        Edges.asks(typed(text), -10 - place, OddFridays::read);
    }

    /** The fault stands at the first place of the mark ^ below the text. */
    private static void fault(String text, String mark) {
        fault(mark.indexOf('^'), text);
    }

    private static void street(String text, int items, int law, int... numbers) {
        OddFridays x = Edges.led(typed(text));
        Edges.due(items, x.read());
        Edges.due(law, x.count(1));
        for (int h = 0; h < 8; h++) {
            Edges.due(h < numbers.length ? numbers[h] : 0, x.of(h, 0));
        }
    }

    private static String with(String text, int length) {
        StringBuilder longer = new StringBuilder(text);
        while (longer.length() < length) {
            longer.append(' ');
        }
        return longer.toString();
    }

    // ---- it ends too early

    static void p10_read_anEmptyText() {
        fault(0, "");
        Edges.asks(Edges::fresh, -10, OddFridays::read);
    }

    static void p10_read_oneBlankAlone() {
        fault(1, " ");
    }

    static void p10_read_150BlanksAlone() {
        fault(150, with("", 150));
    }

    static void p10_read_endsBehindStreet() {
        fault(6, "street");
        fault(7, "street ");
    }

    static void p10_read_endsBehindKind() {
        fault(8, "street 5");
        fault(10, "street 5  ");
    }

    static void p10_read_endsBehindN() {
        fault(10, "street 5 9");
        fault(11, "street 5 9 ");
    }

    static void p10_read_endsBehindHouse() {
        fault(16, "street 5 9;house");
        fault(17, "street 5 9;house ");
    }

    static void p10_read_endsBehindH() {
        fault(18, "street 5 9;house 7");
        fault(19, "street 5 9;house 7 ");
    }

    static void p10_read_endsBehindX() {
        fault(22, "street 5 9;house 7 300");
        fault(23, "street 5 9;house 7 300 ");
    }

    static void p10_read_endsTooEarlyAt150Bytes() {
        fault(150, with("street 0 0;house 0 1", 150));
    }

    // ---- the least and the greatest text

    static void p10_read_streetAlone() {
        street("street 0 0;", 1, 0);
        street("street 5 9;", 1, 59);
    }

    static void p10_read_150Bytes() {
        street(Edges.FULL_TEXT, 13, 59, 299, 2, 77, 111, 220, 284, 6, 29);
    }

    static void p10_read_theLastItemEndsAtThe150thByte() {
        street("street 0 0;" + with("", 128) + "house 7 42;", 2, 0, 0, 0, 0, 0, 0, 0, 0, 42);
        Edges.due(150, ("street 0 0;" + with("", 128) + "house 7 42;").length());
    }

    static void p10_read_aFaultAtThe150thByte() {
        fault(149, with("street 0 0;", 149) + "?");
        fault(149, with("street 0 0;", 149) + ";");
        fault(149, with("street 0 0;", 149) + "h");
    }

    static void p10_read_aTextCutOffBy150Bytes() {
        String text = with("street 0 0;house 0 1", 149) + ";?";
        OddFridays x = Edges.led(typed(text));
        Edges.due(150, x.count(5));
        Edges.due(2, x.read());
    }

    static void p10_read_asManyItemsAs150BytesHold() {
        StringBuilder text = new StringBuilder("street0 0;");
        for (int i = 0; i < 15; i++) {
            text.append("house").append(i % 8).append(' ').append(i % 10).append(';');
        }
        street(text.toString(), 16, 0, 8, 9, 0, 1, 2, 3, 4, 7);
    }

    // ---- numbers

    static void p10_read_kindIs0To5() {
        street("street 0 9;", 1, 9);
        street("street 5 0;", 1, 50);
        fault("street 6 0;",
              "       ^   ");
        fault("street 10 0;",
              "       ^    ");
        fault("street 999 0;",
              "       ^     ");
    }

    static void p10_read_nIs0To9() {
        street("street 4 0;", 1, 40);
        street("street 4 9;", 1, 49);
        fault("street 4 10;",
              "         ^  ");
        fault("street 4 999;",
              "         ^   ");
    }

    static void p10_read_hIs0To7() {
        street("street 0 0;house 0 5;", 2, 0, 5);
        street("street 0 0;house 7 5;", 2, 0, 0, 0, 0, 0, 0, 0, 0, 5);
        fault("street 0 0;house 8 5;",
              "                 ^   ");
        fault("street 0 0;house 10 5;",
              "                 ^    ");
        fault("street 0 0;house 300 5;",
              "                 ^     ");
    }

    static void p10_read_xIs0To300() {
        street("street 0 0;house 0 0;", 2, 0);
        street("street 0 0;house 0 1;", 2, 0, 1);
        street("street 0 0;house 0 300;", 2, 0, 300);
        fault("street 0 0;house 0 301;",
              "                   ^   ");
        fault("street 0 0;house 0 999;",
              "                   ^   ");
    }

    static void p10_read_oneTwoAndThreeFigures() {
        street("street 5 9;house 7 3;", 2, 59, 0, 0, 0, 0, 0, 0, 0, 3);
        street("street 05 09;house 07 03;", 2, 59, 0, 0, 0, 0, 0, 0, 0, 3);
        street("street 005 009;house 007 003;", 2, 59, 0, 0, 0, 0, 0, 0, 0, 3);
        street("street 000 000;house 000 000;", 2, 0);
    }

    static void p10_read_aFourthFigureInKind() {
        fault("street 0005 9;",
              "       ^      ");
        fault("street 0000 9;",
              "       ^      ");
    }

    static void p10_read_aFourthFigureInN() {
        fault("street 5 0009;",
              "         ^    ");
    }

    static void p10_read_aFourthFigureInH() {
        fault("street 5 9;house 0007 1;",
              "                 ^      ");
    }

    static void p10_read_aFourthFigureInX() {
        fault("street 5 9;house 7 0300;",
              "                   ^    ");
        fault("street 5 9;house 7 3000;",
              "                   ^    ");
    }

    static void p10_read_aFourthFigureWhereNoNumberIsDue() {
        fault("street 5 9 0000;",
              "           ^    ");
        fault("0000 street 5 9;",
              "^               ");
    }

    static void p10_read_manyFiguresDoNotWrapRound() {
        fault("street 4294967296 0;",
              "       ^            ");
        fault("street 0 18446744073709551616;",
              "         ^                    ");
        fault(7, "street " + "0".repeat(143));
    }

    static void p10_read_aNumberAtTheTextsEndOfFourFigures() {
        fault("street 5 0009",
              "         ^   ");
    }

    static void p10_read_noNumberForKind() {
        fault("street;",
              "      ^");
        fault("street ; 9;",
              "       ^   ");
        fault("street house 9;",
              "       ^       ");
        fault("street street 0 0;",
              "       ^          ");
    }

    static void p10_read_noNumberForN() {
        fault("street 5;",
              "        ^");
        fault("street 5 x;",
              "         ^ ");
    }

    static void p10_read_noNumberForH() {
        fault("street 5 9;house;",
              "                ^");
        fault("street 5 9;house x 1;",
              "                 ^   ");
    }

    static void p10_read_noNumberForX() {
        fault("street 5 9;house 7;",
              "                  ^");
        fault("street 5 9;house 7 x;",
              "                   ^ ");
    }

    static void p10_read_aNumberBelow0() {
        fault("street -1 0;",
              "       ^    ");
        fault("street 0 -1;",
              "         ^  ");
        fault("street 0 0;house -1 0;",
              "                 ^    ");
        fault("street 0 0;house 0 -1;",
              "                   ^  ");
    }

    static void p10_read_oneNumberTooMany() {
        fault("street 1 1 1;",
              "           ^ ");
        fault("street 1 1;house 1 1 1;",
              "                     ^ ");
    }

    // ---- words

    static void p10_read_aWordThatIsNoneFirst() {
        fault("stree 1 1;",
              "^         ");
        fault("streets 1 1;",
              "^           ");
        fault("strett 1 1;",
              "^          ");
        fault("xtreet 1 1;",
              "^          ");
        fault("s 1 1;",
              "^     ");
        fault("streethouse 1 1;",
              "^               ");
    }

    static void p10_read_aWordThatIsNoneBehindTheStreet() {
        fault("street 1 1;hous 1 1;",
              "           ^        ");
        fault("street 1 1;houses 1 1;",
              "           ^          ");
        fault("street 1 1;housf 1 1;",
              "           ^         ");
        fault("street 1 1;mouse 1 1;",
              "           ^         ");
        fault("street 1 1;house 1 1;hou",
              "                     ^  ");
        fault("street 1 1;housestreet",
              "           ^          ");
    }

    static void p10_read_aWordOf150Letters() {
        fault(0, "a".repeat(150));
        fault(0, "z".repeat(150));
    }

    static void p10_read_streetAgain() {
        fault("street 1 1;street 1 1;",
              "           ^          ");
        fault("street 1 1; street",
              "            ^     ");
        fault("street 1 1;house 0 5;street 1 1;",
              "                     ^          ");
    }

    static void p10_read_anythingAheadOfTheStreet() {
        fault("house 0 0;street 1 1;",
              "^                    ");
        fault(";street 1 1;",
              "^           ");
        fault("1 street 1 1;",
              "^            ");
        fault("? street 1 1;",
              "^            ");
        fault("  house 0 0;",
              "  ^         ");
    }

    static void p10_read_greatLetters() {
        fault("Street 1 1;",
              "^          ");
        fault("strEet 1 1;",
              "^          ");
        fault("street 1 1;House 1 1;",
              "           ^         ");
        fault("street 1 1;housE 1 1;",
              "           ^         ");
        fault("streetE 1 1;",
              "      ^     ");
    }

    // ---- ends of items, blanks, other bytes

    static void p10_read_noEndOfAnItem() {
        fault("street 1 1 house 1 1;",
              "           ^         ");
        fault("street 1 1;house 1 1 house 2 2;",
              "                     ^         ");
        fault("street 1 1x;",
              "          ^ ");
    }

    static void p10_read_twoEnds() {
        fault("street 1 1;;",
              "           ^");
        fault("street 1 1;house 1 1;;",
              "                     ^");
        fault("street 1 1; ;",
              "            ^");
    }

    static void p10_read_blanksBetweenAreFree() {
        street("street 1 1;house 1 1;", 2, 11, 0, 1);
        street("   street   1   1   ;   house   1   1   ;   ", 2, 11, 0, 1);
        street("street1 1;house1 1;", 2, 11, 0, 1);
    }

    static void p10_read_blanksPartTokens() {
        fault("str eet 1 1;",
              "^           ");
        fault("street 1 1;house 1 30 0;",
              "                      ^ ");
        fault("street 1 1;ho use 1 1;",
              "           ^          ");
    }

    static void p10_read_bytesBesideTheBlankBeginNone() {
        for (int c : new int[] {0, 9, 10, 13, 31, 33, 127}) {
            fault(0, (char) c + "street 1 1;");
            fault(6, "street" + (char) c + "1 1;");
            fault(8, "street 1" + (char) c + "1;");
            fault(10, "street 1 1" + (char) c + ";");
            fault(11, "street 1 1;" + (char) c);
        }
    }

    static void p10_read_bytesBesideTheLettersBeginNone() {
        for (int c : new int[] {'a' - 1, 'z' + 1, 'A', 'Z', 'A' - 1, 'Z' + 1}) {
            fault(0, (char) c + "street 1 1;");
            fault(6, "street" + (char) c + " 1 1;");
            fault(11, "street 1 1;" + (char) c + "house 1 1;");
            fault(16, "street 1 1;house" + (char) c + " 1 1;");
        }
    }

    static void p10_read_bytesBesideTheFiguresBeginNone() {
        for (int c : new int[] {'0' - 1, '9' + 1}) {
            fault(7, "street " + (char) c + "1 1;");
            fault(8, "street 1" + (char) c + " 1;");
            fault(20, "street 1 1;house 1 1" + (char) c + ";");
        }
    }

    static void p10_read_bytesBesideTheEndBeginNone() {
        for (int c : new int[] {';' - 1, ';' + 1}) {
            fault(10, "street 1 1" + (char) c);
            fault(20, "street 1 1;house 1 1" + (char) c);
        }
    }

    static void p10_read_theFirstAndLastLetterAreLetters() {
        fault("streeta 1 1;",
              "^           ");
        fault("streetz 1 1;",
              "^           ");
        fault("street 1a 1;",
              "        ^   ");
        fault("street 1z 1;",
              "        ^   ");
    }

    static void p10_read_theFirstAndLastFigureAreFigures() {
        street("street 0 9;house 0 290;house 1 109;", 3, 9, 290, 109);
    }

    static void p10_read_theFirstOfTwoFaults() {
        fault("street 6 10;?",
              "       ^     ");
        fault("street 0 0;house 8 301;",
              "                 ^     ");
        fault("street 0 0;house 0 301;street",
              "                   ^         ");
    }

    // ---- what it takes the place of

    static void p10_read_housesNotToldAreEmpty() {
        street("street 4 4;house 3 9;", 2, 44, 0, 0, 0, 9);
    }

    static void p10_read_aHouseTwiceIsTwoItemsAndTheLastStands() {
        street("street 0 0;house 3 9;house 3 8;", 3, 0, 0, 0, 0, 8);
        street("street 0 0;house 3 9;house 3 0;", 3, 0);
    }

    static void p10_read_noReadings() {
        OddFridays x = Edges.led(typed("street 0 0;"));
        x.read();
        Edges.due(0, x.count(2));
        Edges.due(300, x.who(0));
    }

    static void p10_read_noNotes() {
        OddFridays x = Edges.led(typed("street 0 0;"));
        x.read();
        Edges.due(0, x.count(3));
        Edges.due(60, x.laws(0));
    }

    static void p10_read_nothingToUndo() {
        OddFridays x = Edges.led(typed("street 0 0;house 0 5;"));
        x.read();
        Edges.due(0, x.count(4));
        Edges.due(Edges.NO, x.undo());
        Edges.due(5, x.of(0, 0));
    }

    static void p10_read_imagesStay() {
        OddFridays x = Edges.led(typed("street 0 0;house 0 5;"));
        x.read();
        Edges.due(1, x.from(0));
        Edges.due(9, x.of(2, 0));
        Edges.due(1, x.from(1));
        Edges.due(6, x.of(7, 0));
    }

    static void p10_read_theTextStays() {
        OddFridays x = Edges.led(typed("street 0 0;house 0 5;"));
        x.read();
        Edges.due(21, x.count(5));
        x.house(0, 6);
        Edges.due(2, x.read());
        Edges.due(5, x.of(0, 0));
        Edges.type(x, "house 1 6;");
        Edges.due(3, x.read());
        Edges.due(6, x.of(1, 0));
    }

    static void p10_read_theFractionStays() {
        OddFridays x = Edges.row(0, 2, 4);
        x.odds(5);
        Edges.type(x, "street 0 0;");
        x.read();
        Edges.due(3, x.part(0));
        Edges.due(4, x.part(1));
    }

    static void p10_read_statusStays() {
        OddFridays x = Edges.led(typed("street 0 0;"));
        x.read();
        Edges.statusIs(x, 3, 2, 1);
    }

    static void p10_read_aFaultIsNoRefusalThatStatusCounts() {
        OddFridays x = new OddFridays();
        Edges.due(-10, x.read());
        Edges.statusIs(x, 0, 0, 0);
    }

    static void p10_read_aFaultInTheLastItemLeavesTheFirstUndone() {
        fault("street 5 5;house 0 7;house 1 8;house 2 301;",
              "                                       ^   ");
    }

    static void p10_read_behindAFaultTheNextTextIsReadAnew() {
        OddFridays x = new OddFridays();
        Edges.type(x, "street 1 1;house 4 7;house 9 7;");
        Edges.due(-37, x.read());
        x.clear();
        Edges.type(x, "street 2 2;house 5 3;");
        Edges.due(2, x.read());
        Edges.due(0, x.of(4, 0));
        Edges.due(3, x.of(5, 0));
        Edges.due(22, x.count(1));
    }

    static void p10_read_nothingIsLeftOfTheTextBefore() {
        OddFridays x = new OddFridays();
        Edges.type(x, "street 1 1;house 0 7;house 3 8;house 7 9;");
        Edges.due(4, x.read());
        x.clear();
        Edges.type(x, "street 0 0;");
        Edges.due(1, x.read());
        Edges.due(0, x.count(0));
        Edges.due(0, x.count(1));
    }

    public static void main(String[] args) {
        Edges.run(EdgeReadTest.class);
    }
}
