import java.lang.reflect.Method;

/** That no promise is without edge cases, and that each case's name tells a promise, the call and the case. */
public final class EdgeListTest {
    private static final Class<?>[] TESTS = {EdgeTermsTest.class, EdgeStreetTest.class, EdgeReadTest.class,
        EdgePeaceTest.class, EdgeDaysTest.class, EdgeStrangersTest.class, EdgeKeptTest.class};
    private static final int PROMISES = 36;

    public static void main(String[] args) {
        Check check = new Check("EdgeListTest");
        int[] cases = new int[PROMISES + 1];
        for (Class<?> test : TESTS) {
            for (Method m : test.getDeclaredMethods()) {
                String name = m.getName();
                if (name.matches("p[0-9].*")) {
                    check.so(name + " tells promise, call and case", name.matches("p[0-3][0-9]_[a-zA-Z]+_[a-zA-Z0-9]+"));
                    int promise = Integer.parseInt(name.substring(1, 3));
                    check.so(name + " has a promise", promise <= PROMISES);
                    cases[Math.min(promise, PROMISES)]++;
                }
            }
        }
        for (int promise = 0; promise <= PROMISES; promise++) {
            check.so("promise " + promise + " has edge cases", cases[promise] > 0);
        }
        check.end();
    }
}
