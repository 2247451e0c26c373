/** Counts answers that are not the due ones, and ends a test's run by them. */
final class Check {
    private final String name;
    private int checks;
    private int wrong;

    Check(String name) {
        this.name = name;
    }

    void due(String call, long got, long want) {
        checks++;
        if (got != want) {
            wrong++;
            System.out.println(name + ": " + call + " answered " + got + ", due is " + want);
        }
    }

    void so(String what, boolean holds) {
        due(what, holds ? 1 : 0, 1);
    }

    /** Refused calls change nothing but STATUS: the digest stays, and just one count rises by one. */
    void refused(OddFridays x, String call, java.util.function.IntSupplier run, int want, int counter) {
        long digest = x.digest();
        int[] before = {x.status(0), x.status(1), x.status(2)};
        due(call, run.getAsInt(), want);
        due(call + " leaves digest", x.digest(), digest);
        for (int i = 0; i < 3; i++) {
            due(call + " status(" + i + ")", x.status(i), before[i] + (i == counter ? 1 : 0));
        }
    }

    /** Calls that only ask change nothing at all. */
    void asks(OddFridays x, String call, java.util.function.LongSupplier run, long want) {
        long digest = x.digest();
        int[] before = {x.status(0), x.status(1), x.status(2)};
        due(call, run.getAsLong(), want);
        due(call + " leaves digest", x.digest(), digest);
        for (int i = 0; i < 3; i++) {
            due(call + " status(" + i + ")", x.status(i), before[i]);
        }
    }

    /** A street whose houses 0, 1, .. hold these numbers, under a law. */
    static OddFridays streetOf(int kind, int n, int... row) {
        OddFridays x = new OddFridays();
        x.street(kind, n);
        for (int h = 0; h < row.length; h++) {
            x.house(h, row[h]);
        }
        return x;
    }

    static void typeAll(OddFridays x, String text) {
        x.clear();
        for (int i = 0; i < text.length(); i++) {
            x.type(text.charAt(i));
        }
    }

    void end() {
        System.out.println(name + ": " + checks + " checks, " + wrong + " wrong");
        if (wrong > 0) {
            System.exit(1);
        }
    }
}
