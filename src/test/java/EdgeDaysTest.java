import java.util.ArrayList;
import java.util.List;

/** The edges of promises 19 to 21: chains of parts, and days on the square. */
public final class EdgeDaysTest {
    private static void chain(int x, int steps, int end, int perfect) {
        int[] due = {steps, end, perfect};
        for (int what = 0; what <= 2; what++) {
            int asked = what;
            Edges.asks(Edges::fresh, due[what], street -> street.chain(x, asked));
        }
    }

    private static void meet(int day, int... numbers) {
        Edges.asks(Edges.rowWay(0, numbers), day, OddFridays::meet);
    }

    private static void next(int d, int days, int... numbers) {
        Edges.asks(Edges.rowWay(0, numbers), days, x -> x.next(d));
    }

    // ---- promise 19

    static void p19_chain_xIs1To300() {
        Edges.bounds(1, 300, (street, x) -> street.chain(x, 0));
        Edges.bounds(1, 300, (street, x) -> street.chain(x, 2));
    }

    static void p19_chain_whatIs0To2() {
        Edges.bounds(0, 2, (street, what) -> street.chain(1, what));
    }

    static void p19_chain_bothWrongCountOnce() {
        Edges.bad(street -> street.chain(0, 3));
        Edges.bad(street -> street.chain(301, -1));
    }

    static void p19_chain_of1Is0BehindOneStep() {
        chain(1, 1, 0, 0);
    }

    static void p19_chain_ofAPrimeIs0BehindTwoSteps() {
        chain(2, 2, 0, 0);
        chain(293, 2, 0, 0);
    }

    static void p19_chain_of300() {
        chain(300, 9, 0, 0);
    }

    static void p19_chain_perfectOnesComeBackBehindOneStep() {
        chain(6, 1, 6, 1);
        chain(28, 1, 28, 1);
    }

    static void p19_chain_noOthersArePerfect() {
        int many = 0;
        OddFridays street = new OddFridays();
        for (int x = 1; x <= 300; x++) {
            many += street.chain(x, 2);
        }
        Edges.due(2, many);
    }

    static void p19_chain_friendsComeBackBehindTwoSteps() {
        chain(220, 2, 220, 0);
        chain(284, 2, 284, 0);
    }

    static void p19_chain_oneThatWasAlreadyButNotTheFirst() {
        chain(25, 2, 6, 0);
        chain(95, 3, 6, 0);
    }

    static void p19_chain_moreThan9999EndsIt() {
        chain(276, 11, 10164, 0);
        chain(240, 6, 14112, 0);
    }

    static void p19_chain_lessThan9999DoesNotEndIt() {
        chain(282, 12, 12753, 0);
        chain(264, 7, 10524, 0);
    }

    static void p19_chain_theMostStepsOfAll() {
        chain(102, 18, 0, 0);
        OddFridays street = new OddFridays();
        int most = 0;
        for (int x = 1; x <= 300; x++) {
            most = Math.max(most, street.chain(x, 0));
        }
        Edges.due(18, most);
    }

    private static int partsOf(int x) {
        int sum = 0;
        for (int d = 1; d < x; d++) {
            sum += x % d == 0 ? d : 0;
        }
        return sum;
    }

    private static List<Integer> linksOf(int x) {
        List<Integer> links = new ArrayList<>();
        int last = x;
        while (last != 0 && last <= 9999 && !links.contains(last)) {
            links.add(last);
            last = partsOf(last);
        }
        links.add(last);
        return links;
    }

    static void p19_chain_ofEachNumber() {
        for (int x = 1; x <= 300; x++) {
            List<Integer> links = linksOf(x);
            Edges.due(links.size() - 1, new OddFridays().chain(x, 0));
            Edges.due(links.get(links.size() - 1), new OddFridays().chain(x, 1));
        }
    }

    static void p19_chain_nothingIsLeftOfTheChainBefore() {
        OddFridays street = new OddFridays();
        Edges.due(7, street.chain(12, 0));
        Edges.due(7, street.chain(26, 0));
        for (int x = 300; x >= 1; x--) {
            Edges.due(new OddFridays().chain(x, 0), street.chain(x, 0));
        }
    }

    // ---- promise 20

    static void p20_meet_nobodyLivesThere() {
        Edges.asks(Edges::fresh, 0, OddFridays::meet);
    }

    static void p20_meet_oneAloneComesOnTheDayOfHisHouse() {
        meet(0, 300);
        meet(7, 0, 0, 0, 0, 0, 0, 0, 300);
        meet(7, 0, 0, 0, 0, 0, 0, 0, 1);
    }

    static void p20_meet_notAheadOfTheLastHousesFirstDay() {
        meet(7, 1, 0, 0, 0, 0, 0, 0, 1);
        meet(7, 1, 1, 1, 1, 1, 1, 1, 1);
        meet(9, 3, 2, 0, 0, 0, 0, 0, 2);
        meet(12, 6, 0, 0, 0, 0, 0, 0, 5);
    }

    static void p20_meet_onTheLastDay() {
        meet(99999, 271, 2, 277);
    }

    static void p20_meet_theDayBehindTheLastIsNone() {
        meet(-1, 125, 9, 0, 277);
    }

    static void p20_meet_oneOfThemOnTheLastDayIsNone() {
        meet(-1, 3, 3);
        meet(-1, 0, 2, 2);
    }

    static void p20_meet_sharedDivisors() {
        meet(8, 4, 0, 6);
        meet(20, 4, 0, 6, 0, 0, 5);
    }

    static void p20_meet_farBehindTheLastDayIsNone() {
        meet(-1, 299, 300, 289);
        meet(-1, 300, 299, 293, 289, 287, 283, 281, 277);
    }

    static void p20_meet_neverIsNone() {
        meet(-1, 2, 2);
        meet(-1, 300, 300);
        meet(-1, 4, 0, 0, 6);
    }

    static void p20_meet_likeStepsThatFit() {
        meet(7, 7, 0, 0, 0, 0, 0, 0, 7);
        meet(2, 2, 0, 2);
        meet(300, 300, 299);
    }

    static void p20_meet_noneIsNoRefusal() {
        OddFridays x = Edges.row(0, 2, 2);
        Edges.due(OddFridays.NONE, x.meet());
        Edges.statusIs(x, 0, 0, 0);
    }

    // ---- promise 21

    static void p21_next_dIs0To99999() {
        Edges.bounds(0, 99999, (x, d) -> x.next(d));
    }

    static void p21_next_nobodyLivesThereIsNone() {
        Edges.asks(Edges::fresh, -1, x -> x.next(0));
        Edges.asks(Edges::fresh, -1, x -> x.next(99999));
    }

    static void p21_next_noneIsNoRefusal() {
        OddFridays x = new OddFridays();
        Edges.due(OddFridays.NONE, x.next(0));
        Edges.statusIs(x, 0, 0, 0);
    }

    static void p21_next_onTheDayItselfIs0() {
        next(0, 0, 300);
        next(300, 0, 300);
        next(7, 0, 0, 0, 0, 0, 0, 0, 0, 300);
        next(99999, 0, 271);
    }

    static void p21_next_theDayBehindIsAWholeStepLessOne() {
        next(1, 299, 300);
        next(301, 299, 300);
        next(8, 299, 0, 0, 0, 0, 0, 0, 0, 300);
    }

    static void p21_next_aheadOfTheHousesFirstDay() {
        next(0, 7, 0, 0, 0, 0, 0, 0, 0, 1);
        next(6, 1, 0, 0, 0, 0, 0, 0, 0, 1);
        next(0, 7, 0, 0, 0, 0, 0, 0, 0, 2);
        next(1, 6, 0, 0, 0, 0, 0, 0, 0, 3);
    }

    static void p21_next_number1IsThereEachDay() {
        next(0, 0, 1);
        next(99999, 0, 1);
        next(99999, 0, 0, 0, 0, 0, 0, 0, 0, 1);
    }

    static void p21_next_ofTwoTheOneWhoComesFirst() {
        next(1, 1, 300, 0, 7);
        next(3, 6, 300, 0, 7);
        next(296, 0, 300, 0, 7);
        next(297, 3, 300, 0, 7);
    }

    static void p21_next_behindTheLastDayToo() {
        next(99999, 201, 300);
        next(99999, 208, 0, 0, 0, 0, 0, 0, 0, 300);
        next(99999, 1, 2);
    }

    public static void main(String[] args) {
        Edges.run(EdgeDaysTest.class);
    }
}
