/** The edges that the Terms name: houses, numbers, parts, and the law of each kind. */
public final class EdgeTermsTest {
    private static final int PLAIN = 0, EVEN = 10, PRIME = 20, SQUARE = 30, SHY = 40, FRIEND = 50;

    private static void may(int law, int a, int b, int want) {
        OddFridays x = Edges.row(law);
        Edges.due(want, x.may(a, b));
        Edges.due(want, x.may(b, a));
    }

    // ---- houses

    static void p00_houses_7And0AreNotSideBySide() {
        OddFridays x = Edges.row(PLAIN, 2, 0, 0, 0, 0, 0, 0, 4);
        Edges.due(0, x.quarrels(0));
        Edges.due(0, x.quarrels(1));
        Edges.due(0, x.of(0, 4));
        Edges.due(0, x.of(7, 4));
    }

    static void p00_houses_0And1AreSideBySide() {
        OddFridays x = Edges.row(PLAIN, 2, 4);
        Edges.due(0b11, x.quarrels(0));
        Edges.due(1, x.quarrels(1));
    }

    static void p00_houses_6And7AreSideBySide() {
        OddFridays x = Edges.row(PLAIN, 0, 0, 0, 0, 0, 0, 2, 4);
        Edges.due(0b11000000, x.quarrels(0));
        Edges.due(1, x.quarrels(1));
    }

    static void p00_houses_eachBesideTheNextAlone() {
        for (int h = 0; h < 8; h++) {
            for (int k = h + 1; k < 8; k++) {
                OddFridays x = new OddFridays();
                x.house(h, 2);
                x.house(k, 4);
                Edges.due(k == h + 1 ? 1 : 0, x.quarrels(1));
            }
        }
    }

    static void p00_quarrels_anEmptyHouseBetweenKeepsThemApart() {
        OddFridays x = Edges.row(PLAIN, 2, 0, 4);
        Edges.due(0, x.quarrels(0));
        x.house(1, 1);
        Edges.due(0b111, x.quarrels(0));
    }

    static void p00_quarrels_besideAnEmptyHouseUnderEachKind() {
        for (int law = 0; law < 60; law++) {
            OddFridays x = Edges.row(law, 0, 7, 0, 1, 0, 300, 0, 2);
            Edges.due(0, x.quarrels(0));
            Edges.due(0, x.quarrels(1));
        }
    }

    // ---- numbers by themselves

    static void p00_parts_of1Are0() {
        Edges.due(0, Edges.row(PLAIN, 1).of(0, 1));
    }

    static void p00_parts_of2Are1() {
        Edges.due(1, Edges.row(PLAIN, 2).of(0, 1));
    }

    static void p00_parts_of300() {
        Edges.due(568, Edges.row(PLAIN, 300).of(0, 1));
    }

    static void p00_parts_aSquaresRootCountsOnce() {
        Edges.due(3, Edges.row(PLAIN, 4).of(0, 1));
        Edges.due(18, Edges.row(PLAIN, 289).of(0, 1));
    }

    static void p00_parts_ofEachNumber() {
        for (int number = 1; number <= 300; number++) {
            int sum = 0;
            for (int d = 1; d < number; d++) {
                sum += number % d == 0 ? d : 0;
            }
            Edges.due(sum, Edges.row(PLAIN, number).of(0, 1));
        }
    }

    static void p00_prime_1IsNone() {
        Edges.due(0, Edges.row(PLAIN, 1).of(0, 2));
    }

    static void p00_prime_2IsTheFirst() {
        Edges.due(1, Edges.row(PLAIN, 2).of(0, 2));
    }

    static void p00_prime_4IsNoneThoughItsPartsAreFew() {
        Edges.due(0, Edges.row(PLAIN, 4).of(0, 2));
    }

    static void p00_prime_293IsTheLast() {
        Edges.due(1, Edges.row(PLAIN, 293).of(0, 2));
        for (int number = 294; number <= 300; number++) {
            Edges.due(0, Edges.row(PLAIN, number).of(0, 2));
        }
    }

    static void p00_prime_62InAll() {
        int many = 0;
        for (int number = 1; number <= 300; number++) {
            many += Edges.row(PLAIN, number).of(0, 2);
        }
        Edges.due(62, many);
    }

    static void p00_square_1IsTheFirst() {
        Edges.due(1, Edges.row(PLAIN, 1).of(0, 3));
        Edges.due(0, Edges.row(PLAIN, 2).of(0, 3));
        Edges.due(0, Edges.row(PLAIN, 3).of(0, 3));
        Edges.due(1, Edges.row(PLAIN, 4).of(0, 3));
    }

    static void p00_square_289IsTheLast() {
        Edges.due(0, Edges.row(PLAIN, 288).of(0, 3));
        Edges.due(1, Edges.row(PLAIN, 289).of(0, 3));
        Edges.due(0, Edges.row(PLAIN, 290).of(0, 3));
        Edges.due(0, Edges.row(PLAIN, 300).of(0, 3));
    }

    static void p00_square_17InAll() {
        int many = 0;
        for (int number = 1; number <= 300; number++) {
            many += Edges.row(PLAIN, number).of(0, 3);
        }
        Edges.due(17, many);
    }

    // ---- kinds

    static void p00_law_0And0AtFirst() {
        OddFridays x = new OddFridays();
        Edges.due(0, x.count(1));
        Edges.due(1, x.may(4, 9));
        Edges.due(0, x.may(4, 8));
    }

    static void p00_law_nCountsForShyAlone() {
        for (int kind = 0; kind <= 5; kind++) {
            int[] due = {Edges.row(10 * kind).may(16, 25), Edges.row(10 * kind).may(15, 21)};
            for (int n = 1; n <= 9; n++) {
                OddFridays x = Edges.row(10 * kind + n);
                Edges.due(due[0], x.may(16, 25));
                Edges.due(kind == 4 && n > 6 ? 0 : due[1], x.may(15, 21));
            }
        }
    }

    static void p00_plain_likeOnesMay() {
        may(PLAIN, 1, 1, 1);
        may(PLAIN, 2, 2, 1);
        may(PLAIN, 300, 300, 1);
    }

    static void p00_plain_1DividesAll() {
        OddFridays one = new OddFridays();
        for (int b = 2; b <= 200; b++) {
            Edges.due(0, one.may(1, b));
            Edges.due(0, one.may(b, 1));
        }
        may(PLAIN, 1, 300, 0);
    }

    static void p00_plain_halfOf300DividesItAndOneLessDoesNot() {
        may(PLAIN, 150, 300, 0);
        may(PLAIN, 149, 300, 1);
        may(PLAIN, 151, 300, 1);
        may(PLAIN, 149, 298, 0);
    }

    static void p00_plain_neighboursInNumber() {
        may(PLAIN, 2, 3, 1);
        may(PLAIN, 299, 300, 1);
        may(PLAIN, 1, 2, 0);
    }

    static void p00_even_bothEvenOrBothOdd() {
        may(EVEN, 4, 6, 1);
        may(EVEN, 9, 15, 1);
        may(EVEN, 4, 9, 0);
        may(EVEN, 299, 300, 0);
        may(EVEN, 298, 300, 1);
    }

    static void p00_even_asPlain() {
        may(EVEN, 2, 4, 0);
        may(EVEN, 3, 9, 0);
        may(EVEN, 1, 1, 1);
        may(EVEN, 300, 300, 1);
        may(EVEN, 1, 299, 0);
    }

    static void p00_prime_lawNeitherIsPrime() {
        may(PRIME, 2, 9, 0);
        may(PRIME, 293, 300, 0);
        may(PRIME, 293, 293, 0);
        may(PRIME, 2, 2, 0);
        may(PRIME, 299, 300, 1);
    }

    static void p00_prime_lawOf1WhichIsNone() {
        may(PRIME, 1, 1, 1);
        may(PRIME, 1, 4, 0);
    }

    static void p00_square_bothAreSquaresOfAnyParity() {
        may(SQUARE, 1, 4, 1);
        may(SQUARE, 4, 16, 1);
        may(SQUARE, 1, 289, 1);
        may(SQUARE, 256, 289, 1);
    }

    static void p00_square_oneAloneIsNotEnough() {
        may(SQUARE, 4, 8, 0);
        may(SQUARE, 289, 290, 0);
        may(SQUARE, 1, 2, 0);
        may(SQUARE, 1, 3, 0);
    }

    static void p00_square_elseAsEven() {
        may(SQUARE, 6, 10, 1);
        may(SQUARE, 6, 15, 0);
        may(SQUARE, 6, 12, 0);
        may(SQUARE, 7, 7, 1);
    }

    static void p00_shy_justNGreaterMay() {
        for (int n = 0; n <= 9; n++) {
            may(SHY + n, 100, 100 + n, 1);
            may(SHY + n, 293, 293 - n, 1);
        }
    }

    static void p00_shy_oneLessThanNMayNot() {
        for (int n = 1; n <= 9; n++) {
            may(SHY + n, 100, 100 + n - 1, 0);
            may(SHY + n, 293, 293 - n + 1, 0);
        }
    }

    static void p00_shy_n0LetsLikeOnesAndN1DoesNot() {
        may(SHY, 7, 7, 1);
        may(SHY + 1, 7, 7, 0);
        may(SHY + 1, 7, 8, 1);
    }

    static void p00_shy_asPlainHoweverFar() {
        may(SHY + 9, 1, 300, 0);
        may(SHY + 9, 150, 300, 0);
        may(SHY, 2, 4, 0);
    }

    static void p00_friend_partsOfEachAreTheOther() {
        may(FRIEND, 220, 284, 1);
        may(FRIEND, 6, 6, 1);
        may(FRIEND, 28, 28, 1);
    }

    static void p00_friend_partsOfOneAloneAreNotEnough() {
        may(FRIEND, 4, 3, 0);
        may(FRIEND, 25, 6, 1);
        may(FRIEND, 9, 4, 1);
        may(FRIEND, 2, 1, 0);
        may(FRIEND, 12, 16, 1);
    }

    static void p00_friend_elseAsPrime() {
        may(FRIEND, 7, 9, 0);
        may(FRIEND, 7, 7, 0);
        may(FRIEND, 4, 8, 0);
        may(FRIEND, 1, 1, 1);
        may(FRIEND, 4, 9, 1);
    }

    public static void main(String[] args) {
        Edges.run(EdgeTermsTest.class);
    }
}
