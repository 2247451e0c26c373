import java.lang.management.ManagementFactory;

/** All calls of a run live in one room: an object is small, and no call makes anything new. */
public final class RoomTest {
    private static final Check CHECK = new Check("RoomTest");
    private static final com.sun.management.ThreadMXBean THREADS =
        (com.sun.management.ThreadMXBean) ManagementFactory.getThreadMXBean();
    private static final long OBJECT_BYTES = 32 * 1024;
    /** The machine may make a little for itself: far less than one small row a call. */
    private static final long SLACK_BYTES = 4 * 1024;

    private static long made() {
        return THREADS.getThreadAllocatedBytes(Thread.currentThread().getId());
    }

    private static long everyCall(OddFridays x) {
        long sum = x.street(3, 4) + x.clear();
        String text = "street 5 9;house 0 220;house 1 284;house 2 6;house 4 25;";
        for (int i = 0; i < text.length(); i++) {
            sum += x.type(text.charAt(i));
        }
        sum += x.read() + x.rule(0, 3) + x.house(7, 49) + x.birthday(7) + x.swap(0, 1) + x.of(0, 4) + x.may(2, 3);
        sum += x.quarrels(0) + x.away() + x.orders(-1) + x.orders(0) + x.moved() + x.longest() + x.greatest(1);
        sum += x.chain(138, 0) + x.meet() + x.next(99999) + x.reading(5, 1) + x.who(0) + x.tryNext();
        sum += x.note(4, 9, 1) + x.laws(0) + x.split(0) + x.odds(3) + x.streets(999999, 30) + x.part(0);
        sum += x.image(0) + x.undo() + x.from(0) + x.from(5) + x.status(0) + x.count(4) + x.forget(0) + x.digest();
        return sum;
    }

    public static void main(String[] args) {
        OddFridays warm = new OddFridays();
        everyCall(warm);
        made();
        long before = made();
        long asking = made() - before;
        before = made();
        OddFridays x = new OddFridays();
        CHECK.so("an object is small", made() - before - asking <= OBJECT_BYTES);
        before = made();
        long sum = 0;
        for (int i = 0; i < 20; i++) {
            sum += everyCall(x);
        }
        long after = made();
        CHECK.so("calls make nothing (their answers add up to " + sum + ")", after - before - asking <= SLACK_BYTES);
        CHECK.end();
    }
}
