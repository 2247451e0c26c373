import java.lang.reflect.InvocationTargetException;
import java.lang.reflect.Method;
import java.util.ArrayList;
import java.util.Arrays;
import java.util.Comparator;
import java.util.List;

/**
 * Runs the edge cases of a test class: each of its methods pNN_call_case (NN is the promise; p00 are the Terms),
 * one by one, and tells by its name and line what was not as due.
 */
final class Edges {
    /** Leads a new object into some state. */
    interface Way {
        void lead(OddFridays x);
    }

    interface Call {
        long ask(OddFridays x);
    }

    /** A call with one number in it that has bounds. */
    interface NumberCall {
        long ask(OddFridays x, int number);
    }

    static final int BAD = -2, BAD_APART = -10, NO = -3, FULL = -4;
    /** Places of STATUS; NOTHING where a call counts nowhere. */
    static final int BADS = 0, NOES = 1, FULLS = 2, NOTHING = -1;

    /** A text of just 150 bytes. */
    static final String FULL_TEXT = "street 5 9;house 0 300;house 1 001;house 2 77;house 3 0;house 4 220;"
        + "house 5 284;house 6 6;house 7 28;house 7 29;house 0 299;house 3 111;    house 1 2;";

    private static String running;
    private static int cases;
    private static int checks;
    private static int wrong;

    private Edges() {
    }

    static void run(Class<?> tests) {
        Method[] all = tests.getDeclaredMethods();
        Arrays.sort(all, Comparator.comparing(Method::getName));
        for (Method m : all) {
            if (m.getName().matches("p[0-9][0-9]_.*")) {
                runCase(m);
            }
        }
        System.out.println(tests.getName() + ": " + cases + " cases, " + checks + " checks, " + wrong + " wrong");
        if (wrong > 0 || cases == 0) {
            System.exit(1);
        }
    }

    private static void runCase(Method m) {
        running = m.getName();
        cases++;
        int before = checks;
        try {
            m.setAccessible(true);
            m.invoke(null);
        } catch (InvocationTargetException e) {
            tellWrong("threw " + e.getCause());
        } catch (IllegalAccessException e) {
            tellWrong("can not be run: " + e);
        }
        if (checks == before) {
            tellWrong("looked at nothing");
        }
    }

    private static void tellWrong(String what) {
        wrong++;
        System.out.println(running + place() + " " + what);
    }

    /** Where the test class asked. */
    private static String place() {
        for (StackTraceElement e : new Throwable().getStackTrace()) {
            if (e.getMethodName().equals(running)) {
                return " (" + e.getFileName() + ":" + e.getLineNumber() + ")";
            }
        }
        return "";
    }

    static void due(long want, long got) {
        dueOf("", want, got);
    }

    private static void dueOf(String what, long want, long got) {
        checks++;
        if (want != got) {
            tellWrong(what + "answered " + got + ", due is " + want);
        }
    }

    static void statusIs(OddFridays x, int bads, int noes, int fulls) {
        dueOf("status(0) ", bads, x.status(BADS));
        dueOf("status(1) ", noes, x.status(NOES));
        dueOf("status(2) ", fulls, x.status(FULLS));
    }

    // ---- ways

    /** Nothing there yet. */
    static void fresh(OddFridays x) {
    }

    /** All places taken but THE TEXT's, which is empty; STATUS is 3, 2, 1; nobody of the images lives here now. */
    static void lived(OddFridays x) {
        x.undo();
        x.undo();
        x.street(1, 3);
        x.house(2, 9);
        x.reading(3, 1);
        x.note(2, 4, 0);
        x.image(0);
        x.street(4, 4);
        x.house(0, 5);
        x.swap(0, 7);
        x.birthday(7);
        x.image(1);
        x.street(3, 7);
        for (int i = 0; i < 8; i++) {
            x.house(i, 40 + i);
            x.reading(10 + i, i % 2);
            x.note(100 + i, 200 + i, 1 - i % 2);
        }
        x.reading(1, 1);
        x.rule(4, 9);
        x.odds(3);
        x.status(3);
        x.status(3);
        x.status(3);
    }

    /** All places taken. */
    static void full(OddFridays x) {
        lived(x);
        type(x, FULL_TEXT);
    }

    static void type(OddFridays x, String text) {
        for (int i = 0; i < text.length(); i++) {
            x.type(text.charAt(i));
        }
    }

    static OddFridays led(Way way) {
        OddFridays x = new OddFridays();
        way.lead(x);
        return x;
    }

    /** A street whose houses 0, 1, .. hold these numbers (0: none), under a law of 10 times the KIND and n. */
    static OddFridays row(int law, int... numbers) {
        return led(rowWay(law, numbers));
    }

    static Way rowWay(int law, int... numbers) {
        return x -> {
            x.street(law / 10, law % 10);
            for (int h = 0; h < numbers.length; h++) {
                if (numbers[h] != 0) {
                    x.house(h, numbers[h]);
                }
            }
        };
    }

    // ---- what a call leaves as it was

    /** All that an object holds, as far as calls can tell; it is used up by the asking. */
    private static List<Long> held(OddFridays x) {
        List<Long> all = new ArrayList<>();
        for (int what = 0; what <= 2; what++) {
            all.add((long) x.status(what));
        }
        tellStreet(x, all);
        for (int i = 0; i <= 1; i++) {
            all.add((long) x.from(i));
            tellStreet(x, all);
        }
        all.add((long) x.read());
        tellStreet(x, all);
        return all;
    }

    private static void tellStreet(OddFridays x, List<Long> all) {
        for (int h = 0; h < 8; h++) {
            all.add((long) x.of(h, 0));
        }
        for (int what = 0; what <= 5; what++) {
            all.add((long) x.count(what));
        }
        all.add(x.digest());
        boolean more = true;
        for (int i = 0; i < 9 && more; i++) {
            int left = x.undo();
            more = left >= 0;
            all.add((long) left);
            all.add(x.digest());
        }
    }

    /**
     * Two objects go the same way, but one of them is asked the call at its end: all that they hold is the same
     * then, but for one more in STATUS at the place told.
     */
    private static void leaves(Way way, Call call, long answer, int counter) {
        OddFridays asked = led(way);
        dueOf("", answer, call.ask(asked));
        List<Long> due = held(led(way));
        if (counter != NOTHING) {
            due.set(counter, due.get(counter) + 1);
        }
        List<Long> got = held(asked);
        checks++;
        if (!due.equals(got)) {
            tellWrong("left " + got + ", due is " + due);
        }
    }

    static void refused(Way way, Call call, long answer, int counter) {
        leaves(way, call, answer, counter);
    }

    /** It answers so, and changes nothing at all. */
    static void asks(Way way, long answer, Call call) {
        leaves(way, call, answer, NOTHING);
    }

    /** BAD, whether nothing is there yet or all places are taken: ahead of any NO and FULL. */
    static void bad(Call call) {
        badAs(BAD, call);
    }

    static void badAs(int answer, Call call) {
        refused(Edges::fresh, call, answer, BADS);
        refused(Edges::full, call, answer, BADS);
    }

    /** The first numbers outside, on each side, are BAD, and the farthest; the last ones inside are not. */
    static void bounds(int low, int high, NumberCall call) {
        boundsAs(BAD, low, high, call);
    }

    static void boundsAs(int answer, int low, int high, NumberCall call) {
        for (int number : new int[] {low - 1, high + 1, Integer.MIN_VALUE, Integer.MAX_VALUE}) {
            badAs(answer, x -> call.ask(x, number));
        }
        for (int number : new int[] {low, high}) {
            notBad(Edges::fresh, call, number);
            notBad(Edges::full, call, number);
        }
    }

    private static void notBad(Way way, NumberCall call, int number) {
        OddFridays x = led(way);
        int before = x.status(BADS);
        call.ask(x, number);
        dueOf(number + " is taken: STATUS ", before, x.status(BADS));
    }
}
