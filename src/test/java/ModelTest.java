import java.util.Random;

/** Runs of calls drawn by fixed seeds, answered alike by the class and by the model. */
public final class ModelTest {
    private static final int RUNS = 200;
    private static final int CALLS = 400;
    private static final int KINDS_OF_CALLS = 41;
    private static final String[] TEXTS = {
        "street 0 0;house 0 6;house 7 300;", "street 5 9; house 1 220 ;house 2 284;house 0 1;", "street 3 7;",
        "street 6 0;", "street 1 10;", "house 0 1;", "street 2 1;street 2 1;", "street 0 0;house 8 1;",
        "street 0 0;house 1 301;", "street 0 0;hous 1 1;", "street 4 4;house 3 0012;", "street 1 1;house 3 12",
        "street 1 1;house 3;", "  street  004  009 ; house 007 300 ; ", "street4 4;house3 12;house3 0;", "", "   ",
        "street 1 1;?", "streets 1 1;", "street 1 1;house 2 9;;", "1", ";", "street", "street 2 2;house 2 2;house"
    };

    private final Random random;
    private final OddFridays real = new OddFridays();
    private final Model model = new Model();

    private ModelTest(long seed) {
        random = new Random(seed);
    }

    /** Mostly within the bounds, now and then just outside or far away. */
    private int pick(int low, int high) {
        switch (random.nextInt(40)) {
            case 0: return low - 1;
            case 1: return high + 1;
            case 2: return random.nextInt();
            case 3: return random.nextBoolean() ? Integer.MIN_VALUE : Integer.MAX_VALUE;
            case 4: case 5: return low;
            case 6: case 7: return high;
            default: return low + random.nextInt(high - low + 1);
        }
    }

    private static final int[] FAVOURITES = {1, 2, 3, 4, 5, 6, 7, 9, 12, 16, 25, 28, 36, 220, 284, 299, 300};

    private int number() {
        return random.nextInt(3) == 0 ? pick(1, 300)
            : random.nextBoolean() ? FAVOURITES[random.nextInt(FAVOURITES.length)] : 1 + random.nextInt(40);
    }

    private int resident() {
        return random.nextInt(6) == 0 ? 0 : number();
    }

    private void typeText(Check check) {
        String text = TEXTS[random.nextInt(TEXTS.length)];
        check.due("clear", real.clear(), model.clear());
        for (int i = 0; i < text.length(); i++) {
            int c = random.nextInt(200) == 0 ? random.nextInt(128) : text.charAt(i);
            check.due("type", real.type(c), model.type(c));
        }
        check.due("read of " + text, real.read(), model.read());
    }

    private void call(Check check, int which) {
        int a = pick(0, 7);
        int b = pick(0, 7);
        int bit = pick(0, 1);
        int x = number();
        int y = number();
        int kind = pick(0, 5);
        int n = pick(0, 9);
        int day = pick(0, 99999);
        int seed = pick(0, 999999);
        int resident = resident();
        switch (which) {
            case 0: if (random.nextInt(5) == 0) check.due("street", real.street(kind, n), model.street(kind, n)); break;
            case 1: check.due("rule", real.rule(kind, n), model.rule(kind, n)); break;
            case 2: case 36: case 37: case 38: case 39: case 40:
                check.due("house", real.house(a, resident), model.house(a, resident)); break;
            case 3: check.due("birthday", real.birthday(a), model.birthday(a)); break;
            case 4: check.due("swap", real.swap(a, b), model.swap(a, b)); break;
            case 5: check.due("undo", real.undo(), model.undo()); break;
            case 6: check.due("type", real.type(pickByte(bit)), model.type(pickByte(bit))); break;
            case 7: if (random.nextInt(9) == 0) check.due("clear", real.clear(), model.clear()); break;
            case 8: if (random.nextInt(8) == 0) typeText(check); break;
            case 9: check.due("of", real.of(a, kind), model.of(a, kind)); break;
            case 10: check.due("may", real.may(x, y), model.may(x, y)); break;
            case 11: check.due("quarrels", real.quarrels(bit), model.quarrels(bit)); break;
            case 12: check.due("away", real.away(), model.away()); break;
            case 13: int h = pick(-1, 7); check.due("orders", real.orders(h), model.orders(h)); break;
            case 14: check.due("moved", real.moved(), model.moved()); break;
            case 15: check.due("longest", real.longest(), model.longest()); break;
            case 16: check.due("greatest", real.greatest(bit), model.greatest(bit)); break;
            case 17: int w = pick(0, 2); check.due("chain", real.chain(x, w), model.chain(x, w)); break;
            case 18: check.due("meet", real.meet(), model.meet()); break;
            case 19: check.due("next", real.next(day), model.next(day)); break;
            case 20: check.due("reading", real.reading(x, bit), model.reading(x, bit)); break;
            case 21: check.due("who", real.who(bit), model.who(bit)); break;
            case 22: if (random.nextInt(4) == 0) check.due("tryNext", real.tryNext(), model.tryNext()); break;
            case 23: check.due("note", real.note(x, y, bit), model.note(x, y, bit)); break;
            case 24: check.due("laws", real.laws(bit), model.laws(bit)); break;
            case 25: if (random.nextInt(3) == 0) check.due("forget", real.forget(bit), model.forget(bit)); break;
            case 26: check.due("split", real.split(a), model.split(a)); break;
            case 27: int o = pick(0, 10); check.due("odds", real.odds(o), model.odds(o)); break;
            case 28: int m = pick(0, 30); check.due("streets", real.streets(seed, m), model.streets(seed, m)); break;
            case 29: check.due("part", real.part(bit), model.part(bit)); break;
            case 30: check.due("image", real.image(bit), model.image(bit)); break;
            case 31: if (random.nextInt(3) == 0) check.due("from", real.from(bit), model.from(bit)); break;
            case 32: check.due("status", real.status(kind), model.status(kind)); break;
            case 33: check.due("count", real.count(kind), model.count(kind)); break;
            case 34: case 35: fillAll(check); break;
            default: check.so("no such call", false);
        }
        check.due("digest behind " + which, real.digest(), model.digest());
        check.due("status(0) behind " + which, real.status(0), model.status(0));
        check.due("status(1) behind " + which, real.status(1), model.status(1));
        check.due("status(2) behind " + which, real.status(2), model.status(2));
    }

    private static int pickByte(int bit) {
        return bit == 0 ? 127 : bit;
    }

    /** Now and then a full street: the searches have the most to do there. */
    private void fillAll(Check check) {
        if (random.nextInt(4) != 0) {
            return;
        }
        for (int h = 0; h < 8; h++) {
            int x = 1 + random.nextInt(random.nextBoolean() ? 12 : 300);
            check.due("house", real.house(h, x), model.house(h, x));
        }
    }

    public static void main(String[] args) {
        Check check = new Check("ModelTest");
        for (int run = 0; run < RUNS; run++) {
            ModelTest test = new ModelTest(run);
            for (int i = 0; i < CALLS; i++) {
                test.call(check, test.random.nextInt(KINDS_OF_CALLS));
            }
        }
        check.end();
    }
}
