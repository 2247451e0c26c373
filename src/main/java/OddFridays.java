/** Numbers that live in a street of eight houses, and who may live beside whom. */
public final class OddFridays {
    public static final int NONE = -1, BAD = -2, NO = -3, FULL = -4;

    /** The BAD of calls among whose plain answers, or arguments, -1 and less have a place. */
    private static final int BAD_TOLD_APART = -10;
    private static final int NO_FAULT = -1;
    private static final int HOUSES = 8;
    private static final int NUMBERS = 300;
    private static final int KINDS = 6;
    private static final int LAWS = 60;
    private static final int PLAIN_LAW = 0;
    private static final int KEPT = 8;
    private static final int IMAGES = 2;
    private static final int TEXT_ROOM = 150;
    private static final int LAST_DAY = 99999;
    private static final int CHAIN_STEPS = 20;
    private static final int CHAIN_TOP = 9999;
    private static final int LAST_SEED = 999999;
    private static final int MOST_STREETS = 30;

    private final Numbers numbers = new Numbers();
    private final Laws lawBook = new Laws(numbers);
    private final Peace peace = new Peace(lawBook);
    private final Reader reader = new Reader();
    private final State now = new State();
    private final State[] images = new State[IMAGES];
    private final boolean[] imageKept = new boolean[IMAGES];
    private final int[] trial = new int[HOUSES];
    private final int[] fits = new int[NUMBERS];
    private final int[] links = new int[CHAIN_STEPS + 1];
    private int linkCount;
    private long above;
    private long below = 1;
    private int bads;
    private int noes;
    private int fulls;

    public OddFridays() {
        for (int i = 0; i < IMAGES; i++) {
            images[i] = new State();
        }
    }

    // ---- a street

    public int street(int kind, int n) {
        if (!isLaw(kind, n)) {
            return refuseBad();
        }
        int lived = now.living();
        now.begin(10 * kind + n);
        return lived;
    }

    public int rule(int kind, int n) {
        if (!isLaw(kind, n)) {
            return refuseBad();
        }
        int was = now.law;
        now.remember();
        now.law = 10 * kind + n;
        return was;
    }

    public int house(int h, int x) {
        if (!isHouse(h) || x < 0 || x > NUMBERS) {
            return refuseBad();
        }
        int was = now.row[h];
        now.remember();
        now.row[h] = x;
        return was;
    }

    public int birthday(int h) {
        if (!isHouse(h)) {
            return refuseBad();
        }
        int x = now.row[h];
        if (x == 0 || x >= NUMBERS) {
            return refuseNo();
        }
        now.remember();
        now.row[h] = x + 1;
        return x + 1;
    }

    public int swap(int h, int k) {
        if (!isHouse(h) || !isHouse(k) || h == k) {
            return refuseBad();
        }
        int x = now.row[h];
        int y = now.row[k];
        if (x == 0 && y == 0) {
            return refuseNo();
        }
        now.remember();
        now.row[h] = y;
        now.row[k] = x;
        return 1;
    }

    public int undo() {
        if (!now.goBack()) {
            return refuseNo();
        }
        return now.living();
    }

    public int type(int c) {
        if (c < 0 || c > 127) {
            return refuseBad();
        }
        if (!reader.take(c)) {
            return refuseFull();
        }
        return reader.length;
    }

    public int clear() {
        int had = reader.length;
        reader.length = 0;
        return had;
    }

    public int read() {
        reader.parse();
        if (reader.fault != NO_FAULT) {
            return -10 - reader.fault;
        }
        now.begin(reader.law);
        System.arraycopy(reader.row, 0, now.row, 0, HOUSES);
        return reader.items;
    }

    public int of(int h, int what) {
        if (!isHouse(h) || what < 0 || what > 4) {
            return refuseBad();
        }
        int x = now.row[h];
        if (x == 0) {
            return 0;
        }
        switch (what) {
            case 0:
                return x;
            case 1:
                return numbers.partsOf(x);
            case 2:
                return bit(numbers.isPrime(x));
            case 3:
                return bit(numbers.isSquare(x));
            default:
                return Peace.bothOf(lawBook.quarrelling(now.law, now.row)) >> h & 1;
        }
    }

    public int may(int a, int b) {
        if (!isNumber(a) || !isNumber(b)) {
            return refuseBad();
        }
        return bit(lawBook.allows(now.law, a, b));
    }

    // ---- peace

    public int quarrels(int what) {
        if (!isBit(what)) {
            return refuseBad();
        }
        int pairs = lawBook.quarrelling(now.law, now.row);
        return what == 0 ? Peace.bothOf(pairs) : Integer.bitCount(pairs);
    }

    public int away() {
        return Peace.fewestAway(lawBook.quarrelling(now.law, now.row));
    }

    public int orders(int h) {
        if (h != NONE && !isHouse(h)) {
            return refuseBadApart();
        }
        peace.settle(now.law, now.row);
        int ways = peace.countOrders();
        if (h == NONE) {
            return ways;
        }
        return ways == 0 ? NONE : peace.inFirstOrder(h);
    }

    public int moved() {
        peace.settle(now.law, now.row);
        return peace.leastMoved();
    }

    public int longest() {
        peace.settleApart(now.row);
        return peace.longestRow();
    }

    public int greatest(int what) {
        if (!isBit(what)) {
            return refuseBad();
        }
        peace.settleApart(now.row);
        int chosen = peace.greatestSet();
        return what == 0 ? Integer.bitCount(chosen) : chosen;
    }

    // ---- parts, days

    public int chain(int x, int what) {
        if (!isNumber(x) || what < 0 || what > 2) {
            return refuseBad();
        }
        if (what == 2) {
            return bit(numbers.partsOf(x) == x);
        }
        int end = followChain(x);
        return what == 0 ? linkCount - 1 : end;
    }

    public int meet() {
        int day = 0;
        int step = 1;
        for (int h = 0; h < HOUSES; h++) {
            int x = now.row[h];
            if (x > 0) {
                day = firstShared(day, step, h, x);
                step = sharedStep(step, x);
            }
        }
        return day > LAST_DAY ? NONE : day;
    }

    public int next(int d) {
        if (d < 0 || d > LAST_DAY) {
            return refuseBad();
        }
        int least = NONE;
        for (int h = 0; h < HOUSES; h++) {
            int x = now.row[h];
            if (x > 0) {
                int wait = waitFrom(d, h, x);
                least = least == NONE ? wait : Math.min(least, wait);
            }
        }
        return least;
    }

    // ---- strangers, laws

    public int reading(int x, int is) {
        if (!isNumber(x) || !isBit(is)) {
            return refuseBad();
        }
        if (now.readingCount >= KEPT) {
            return refuseFull();
        }
        now.addReading(x, is);
        return now.readingCount;
    }

    public int who(int what) {
        if (!isBit(what)) {
            return refuseBadApart();
        }
        int many = gatherFits();
        if (what == 0) {
            return many;
        }
        return many == 0 ? NONE : fits[0];
    }

    public int tryNext() {
        int many = gatherFits();
        int best = NONE;
        int least = NUMBERS + 1;
        for (int x = 1; x <= NUMBERS && many > 0; x++) {
            int greater = greaterPart(x, many, least);
            if (greater < least) {
                least = greater;
                best = x;
            }
        }
        return best;
    }

    public int note(int a, int b, int is) {
        if (!isNumber(a) || !isNumber(b) || !isBit(is)) {
            return refuseBad();
        }
        if (now.noteCount >= KEPT) {
            return refuseFull();
        }
        now.addNote(a, b, is);
        return now.noteCount;
    }

    public int laws(int what) {
        if (!isBit(what)) {
            return refuseBadApart();
        }
        int many = 0;
        int first = NONE;
        for (int law = 0; law < LAWS; law++) {
            if (agreesWithNotes(law)) {
                first = many == 0 ? law : first;
                many++;
            }
        }
        return what == 0 ? many : first;
    }

    public int forget(int what) {
        if (!isBit(what)) {
            return refuseBad();
        }
        int were = what == 0 ? now.readingCount : now.noteCount;
        if (what == 0) {
            now.readingCount = 0;
        } else {
            now.noteCount = 0;
        }
        return were;
    }

    public int split(int h) {
        if (!isHouse(h)) {
            return refuseBad();
        }
        int x = now.row[h];
        int free = emptyBehind(h);
        if (x < 2 || free == NONE) {
            return NONE;
        }
        System.arraycopy(now.row, 0, trial, 0, HOUSES);
        trial[h] = x / 2;
        trial[free] = x - x / 2;
        return Integer.bitCount(lawBook.quarrelling(now.law, trial));
    }

    public int odds(int o) {
        if (o < 0 || o > 10) {
            return refuseBad();
        }
        long peaceful = lawBook.peacefulTenths(now.law, now.row, o);
        long all = 1;
        for (int i = now.living(); i > 0; i--) {
            all *= 10;
        }
        long shared = commonDivisor(all, peaceful);
        if (shared > 0) {
            above = peaceful / shared;
            below = all / shared;
        }
        return 1;
    }

    public int streets(int seed, int n) {
        if (seed < 0 || seed > LAST_SEED || n < 0 || n > MOST_STREETS) {
            return refuseBad();
        }
        long seen = seed;
        int peaceful = 0;
        for (int i = 0; i < n; i++) {
            seen = fillTrial(seen);
            if (lawBook.quarrelling(now.law, trial) == 0) {
                peaceful++;
            }
        }
        return peaceful;
    }

    // ---- what there is

    public long part(int what) {
        if (!isBit(what)) {
            return refuseBad();
        }
        return what == 0 ? above : below;
    }

    public int image(int i) {
        State kept = imageAt(i);
        if (kept == null) {
            return refuseBad();
        }
        kept.copyFrom(now);
        imageKept[i] = true;
        return 1;
    }

    public int from(int i) {
        State kept = imageAt(i);
        if (kept == null) {
            return refuseBad();
        }
        if (!imageKept[i]) {
            return refuseNo();
        }
        now.copyFrom(kept);
        return 1;
    }

    public int status(int what) {
        switch (what) {
            case 0:
                return bads;
            case 1:
                return noes;
            case 2:
                return fulls;
            default:
                bads++;
                return -1;
        }
    }

    public int count(int what) {
        if (what < 0 || what > 5) {
            return refuseBad();
        }
        return tally(what);
    }

    public long digest() {
        long h = 1013;
        for (int what = 0; what <= 5; what++) {
            h = 31 * h + tally(what);
        }
        h = fold(h, now.row, HOUSES);
        h = fold(h, now.readings, 3 * now.readingCount);
        h = fold(h, now.notes, 3 * now.noteCount);
        h = 31 * h + above;
        return 31 * h + below;
    }

    // ---- what is refused

    private int refuseBad() {
        bads++;
        return BAD;
    }

    private int refuseBadApart() {
        bads++;
        return BAD_TOLD_APART;
    }

    private int refuseNo() {
        noes++;
        return NO;
    }

    private int refuseFull() {
        fulls++;
        return FULL;
    }

    private static boolean isLaw(int kind, int n) {
        return kind >= 0 && kind < KINDS && n >= 0 && n <= 9;
    }

    private static boolean isHouse(int h) {
        return h >= 0 && h < HOUSES;
    }

    private static boolean isNumber(int x) {
        return x >= 1 && x <= NUMBERS;
    }

    private static boolean isBit(int b) {
        return b == 0 || b == 1;
    }

    private static int bit(boolean so) {
        return so ? 1 : 0;
    }

    // ---- chains and days

    /** Leaves the chain in links, as the first linkCount of them, and answers its last one. */
    private int followChain(int x) {
        links[0] = x;
        linkCount = 1;
        int last = x;
        boolean ended = false;
        for (int i = 1; i <= CHAIN_STEPS && !ended; i++) {
            last = numbers.partsOf(last);
            ended = last == 0 || last > CHAIN_TOP || isLink(last);
            links[i] = last;
            linkCount = i + 1;
        }
        return last;
    }

    private boolean isLink(int x) {
        for (int i = 0; i < linkCount && i < links.length; i++) {
            if (links[i] == x) {
                return true;
            }
        }
        return false;
    }

    /** The first of day, day + step, .. on which the one of house h is there too; past LAST_DAY there may be none. */
    private static int firstShared(int day, int step, int h, int x) {
        int shared = day;
        for (int i = 0; i <= LAST_DAY && shared <= LAST_DAY && !isThere(shared, h, x); i++) {
            shared += step;
        }
        return shared;
    }

    private static boolean isThere(int day, int h, int x) {
        return day >= h && x > 0 && (day - h) % x == 0;
    }

    /** The least common multiple, or any step that leaves all days behind: only days up to LAST_DAY are asked for. */
    private static int sharedStep(int step, int x) {
        long divisor = commonDivisor(step, x);
        if (divisor < 1) {
            return step;
        }
        return (int) Math.min(step / divisor * x, LAST_DAY + 1L);
    }

    private static int waitFrom(int d, int h, int x) {
        if (d <= h || x < 1) {
            return h - d;
        }
        int over = (d - h) % x;
        return over == 0 ? 0 : x - over;
    }

    private static long commonDivisor(long a, long b) {
        long greater = a;
        long less = b;
        for (int i = 0; i < 100 && less != 0; i++) {
            long rest = greater % less;
            greater = less;
            less = rest;
        }
        return greater;
    }

    // ---- strangers and laws

    /** Leaves whom the stranger can be in fits, rising, and answers how many they are. */
    private int gatherFits() {
        int many = 0;
        for (int x = 1; x <= NUMBERS; x++) {
            if (agreesWithReadings(x) && many < fits.length) {
                fits[many] = x;
                many++;
            }
        }
        return many;
    }

    private boolean agreesWithReadings(int stranger) {
        for (int i = 0; i < now.readingCount && i < KEPT; i++) {
            boolean so = lawBook.allows(now.readings[3 * i + 2], stranger, now.readings[3 * i]);
            if (bit(so) != now.readings[3 * i + 1]) {
                return false;
            }
        }
        return true;
    }

    /** Stops at enough: a part that is no less than the least one so far needn't be counted out. */
    private int greaterPart(int x, int many, int enough) {
        int beside = 0;
        int apart = 0;
        for (int i = 0; i < many && i < fits.length && beside < enough && apart < enough; i++) {
            if (lawBook.allows(now.law, x, fits[i])) {
                beside++;
            } else {
                apart++;
            }
        }
        return Math.max(beside, apart);
    }

    private boolean agreesWithNotes(int law) {
        for (int i = 0; i < now.noteCount && i < KEPT; i++) {
            boolean so = lawBook.allows(law, now.notes[3 * i], now.notes[3 * i + 1]);
            if (bit(so) != now.notes[3 * i + 2]) {
                return false;
            }
        }
        return true;
    }

    private int emptyBehind(int h) {
        for (int i = 1; i < HOUSES; i++) {
            int k = h + i < HOUSES ? h + i : h + i - HOUSES;
            if (isHouse(k) && now.row[k] == 0) {
                return k;
            }
        }
        return NONE;
    }

    private long fillTrial(long seen) {
        long x = seen;
        for (int h = 0; h < HOUSES; h++) {
            x = (x * 1103515245L + 12345L) % 2147483648L;
            trial[h] = (int) (x / 65536 % 301);
        }
        return x;
    }

    // ---- what is kept

    private State imageAt(int i) {
        return i >= 0 && i < IMAGES ? images[i] : null;
    }

    private int tally(int what) {
        switch (what) {
            case 0:
                return now.living();
            case 1:
                return now.law;
            case 2:
                return now.readingCount;
            case 3:
                return now.noteCount;
            case 4:
                return now.pastCount;
            default:
                return reader.length;
        }
    }

    private static long fold(long start, int[] values, int many) {
        long h = start;
        for (int i = 0; i < many && i < values.length; i++) {
            h = 31 * h + values[i];
        }
        return h;
    }

    /** What numbers are by themselves. */
    private static final class Numbers {
        private final int[] parts = new int[NUMBERS + 1];
        private final boolean[] squares = new boolean[NUMBERS + 1];

        Numbers() {
            for (int root = 1; root * root <= NUMBERS; root++) {
                squares[root * root] = true;
            }
            for (int d = 1; d <= NUMBERS / 2; d++) {
                for (int x = 2 * d; x <= NUMBERS; x += d) {
                    parts[x] += d;
                }
            }
        }

        int partsOf(int x) {
            if (x < 1) {
                return 0;
            }
            return x <= NUMBERS ? parts[x] : addParts(x);
        }

        /** Of chains' numbers, 2 .. CHAIN_TOP: too many for a table in each object. */
        private static int addParts(int x) {
            int sum = 1;
            for (int d = 2; d <= CHAIN_TOP && d * d <= x; d++) {
                if (x % d == 0) {
                    int other = x / d;
                    sum += other == d ? d : d + other;
                }
            }
            return sum;
        }

        boolean isPrime(int x) {
            return x > 0 && x < parts.length && parts[x] == 1;
        }

        boolean isSquare(int x) {
            return x > 0 && x < squares.length && squares[x];
        }

        boolean areFriends(int a, int b) {
            return isNumber(a) && isNumber(b) && parts[a] == b && parts[b] == a;
        }
    }

    /** KIND 0. Each other KIND asks the one that it stands under, so that a change there reaches it. */
    private static class Plain {
        final Numbers numbers;

        Plain(Numbers numbers) {
            this.numbers = numbers;
        }

        boolean lets(int a, int b, int n) {
            int less = a < b ? a : b;
            int greater = a < b ? b : a;
            return less == greater || less < 1 || greater % less != 0;
        }
    }

    private static class Even extends Plain {
        Even(Numbers numbers) {
            super(numbers);
        }

        boolean lets(int a, int b, int n) {
            return (a + b) % 2 == 0 && super.lets(a, b, n);
        }
    }

    private static class Prime extends Plain {
        Prime(Numbers numbers) {
            super(numbers);
        }

        boolean lets(int a, int b, int n) {
            return !numbers.isPrime(a) && !numbers.isPrime(b) && super.lets(a, b, n);
        }
    }

    private static final class Square extends Even {
        Square(Numbers numbers) {
            super(numbers);
        }

        boolean lets(int a, int b, int n) {
            return super.lets(a, b, n) || numbers.isSquare(a) && numbers.isSquare(b);
        }
    }

    private static final class Shy extends Plain {
        Shy(Numbers numbers) {
            super(numbers);
        }

        boolean lets(int a, int b, int n) {
            return Math.abs(a - b) >= n && super.lets(a, b, n);
        }
    }

    private static final class Friend extends Prime {
        Friend(Numbers numbers) {
            super(numbers);
        }

        boolean lets(int a, int b, int n) {
            return super.lets(a, b, n) || numbers.areFriends(a, b);
        }
    }

    /** Laws by their number, 10 times the KIND and n, and what they say of a street. */
    private static final class Laws {
        private final Plain[] kinds = new Plain[KINDS];

        Laws(Numbers numbers) {
            kinds[0] = new Plain(numbers);
            kinds[1] = new Even(numbers);
            kinds[2] = new Prime(numbers);
            kinds[3] = new Square(numbers);
            kinds[4] = new Shy(numbers);
            kinds[5] = new Friend(numbers);
        }

        /** Beside an empty house (0) anybody may live. */
        boolean allows(int law, int a, int b) {
            if (a == 0 || b == 0 || law < 0 || law >= LAWS) {
                return true;
            }
            Plain kind = kinds[law / 10];
            return kind == null || kind.lets(a, b, law % 10);
        }

        /** Bit h stands for houses h and h + 1. */
        int quarrelling(int law, int[] row) {
            int pairs = 0;
            for (int h = 0; h + 1 < row.length; h++) {
                if (!allows(law, row[h], row[h + 1])) {
                    pairs |= 1 << h;
                }
            }
            return pairs;
        }

        /** The chance of peace after birthdays, as a share of 10 to the power of how many live there. */
        long peacefulTenths(int law, int[] row, int o) {
            int oldBefore = 0;
            int grownBefore = 0;
            long calm = 1;
            long feast = 0;
            for (int h = 0; h < row.length; h++) {
                int old = row[h];
                int grown = old == 0 || old >= NUMBERS ? old : old + 1;
                long stays = allows(law, oldBefore, old) ? calm : 0;
                stays += allows(law, grownBefore, old) ? feast : 0;
                long grows = allows(law, oldBefore, grown) ? calm : 0;
                grows += allows(law, grownBefore, grown) ? feast : 0;
                calm = old == 0 ? stays : stays * (10 - o);
                feast = old == 0 ? 0 : grows * o;
                oldBefore = old;
                grownBefore = grown;
            }
            return calm + feast;
        }
    }

    /** Looks through all sets of those who live in a street; its tables are made once and used by every call. */
    private static final class Peace {
        private static final int SETS = 1 << HOUSES;

        private final Laws lawBook;
        private final int[] people = new int[HOUSES];
        private final int[] homes = new int[HOUSES];
        private final int[] good = new int[HOUSES];
        private final int[] table = new int[SETS * HOUSES];
        private final int[] ends = new int[SETS];
        private int many;

        Peace(Laws lawBook) {
            this.lawBook = lawBook;
        }

        static int bothOf(int pairs) {
            return pairs | pairs << 1;
        }

        /** Sets rise, so the first of the smallest is the least. */
        static int fewestAway(int pairs) {
            int best = SETS - 1;
            for (int set = 0; set < SETS; set++) {
                boolean calms = (pairs & ~(set | set >> 1)) == 0;
                if (calms && Integer.bitCount(set) < Integer.bitCount(best)) {
                    best = set;
                }
            }
            return best;
        }

        /** Takes in who lives in the row, closed up, and whom each of them bears beside himself. */
        void settle(int law, int[] row) {
            gather(row);
            for (int i = 0; i < many; i++) {
                good[i] = 0;
                for (int j = 0; j < many; j++) {
                    if (lawBook.allows(law, people[i], people[j])) {
                        good[i] |= 1 << j;
                    }
                }
            }
        }

        private void gather(int[] row) {
            many = 0;
            for (int h = 0; h < row.length && h < HOUSES; h++) {
                if (row[h] > 0) {
                    homes[many] = h;
                    people[many] = row[h];
                    many++;
                }
            }
        }

        /** Who may come to the next home, when those of set fill the first ones and last is the last of them. */
        private int comers(int set, int last) {
            int place = Integer.bitCount(set);
            int rest = (1 << many) - 1 & ~set;
            boolean beside = place > 0 && place < many && homes[place - 1] + 1 == homes[place];
            return beside ? rest & good[last] : rest;
        }

        /** Fills the table: in how many ways a set that fills the first homes, with its last one, can be gone on. */
        int countOrders() {
            int all = (1 << many) - 1;
            for (int set = all; set > 0; set--) {
                for (int last = 0; last < many; last++) {
                    if ((set >> last & 1) == 1) {
                        table[set * HOUSES + last] = set == all ? 1 : sumOver(set, comers(set, last));
                    }
                }
            }
            return all == 0 ? 1 : sumOver(0, comers(0, 0));
        }

        private int sumOver(int set, int comers) {
            int sum = 0;
            for (int i = 0; i < many; i++) {
                if ((comers >> i & 1) == 1) {
                    sum += table[(set | 1 << i) * HOUSES + i];
                }
            }
            return sum;
        }

        /** Behind countOrders, if there are any. */
        int inFirstOrder(int h) {
            int set = 0;
            int last = 0;
            for (int place = 0; place < many; place++) {
                last = firstComer(set, comers(set, last));
                set |= 1 << last;
                if (homes[place] == h) {
                    return people[last];
                }
            }
            return 0;
        }

        private int firstComer(int set, int comers) {
            for (int i = 0; i < many; i++) {
                if ((comers >> i & 1) == 1 && table[(set | 1 << i) * HOUSES + i] > 0) {
                    return i;
                }
            }
            return 0;
        }

        /** Fills the table: how few of the rest move at the least. */
        int leastMoved() {
            int all = (1 << many) - 1;
            for (int set = all; set > 0; set--) {
                for (int last = 0; last < many; last++) {
                    if ((set >> last & 1) == 1) {
                        table[set * HOUSES + last] = set == all ? 0 : leastOver(set, comers(set, last));
                    }
                }
            }
            return all == 0 ? 0 : leastOver(0, comers(0, 0));
        }

        private int leastOver(int set, int comers) {
            int place = Integer.bitCount(set);
            int least = NONE;
            for (int i = 0; i < many; i++) {
                int rest = (comers >> i & 1) == 1 ? table[(set | 1 << i) * HOUSES + i] : NONE;
                if (rest != NONE) {
                    int moves = i == place ? rest : rest + 1;
                    least = least == NONE ? moves : Math.min(least, moves);
                }
            }
            return least;
        }

        /** The PLAIN law keeps those apart of whom one divides the other, but for like ones. */
        void settleApart(int[] row) {
            settle(PLAIN_LAW, row);
            for (int i = 0; i < many; i++) {
                for (int j = 0; j < many; j++) {
                    if (people[i] == people[j]) {
                        good[i] &= ~(1 << j);
                    }
                }
            }
        }

        /** Behind settleApart. ends has, for each set, those with whom a row of just this set can end. */
        int longestRow() {
            int longest = 0;
            for (int set = 1; set < 1 << many; set++) {
                ends[set] = endsOf(set);
                if (ends[set] != 0) {
                    longest = Math.max(longest, Integer.bitCount(set));
                }
            }
            return longest;
        }

        private int endsOf(int set) {
            int found = 0;
            for (int i = 0; i < many; i++) {
                int others = set & ~(1 << i);
                boolean within = others != set;
                if (within && (others == 0 || (ends[others] & good[i]) != 0)) {
                    found |= 1 << i;
                }
            }
            return found;
        }

        /** Behind settleApart. Homes rise, so the least set of those who live there is the least one of houses. */
        int greatestSet() {
            int best = 0;
            for (int set = 1; set < 1 << many; set++) {
                if (Integer.bitCount(set) > Integer.bitCount(best) && isApart(set)) {
                    best = set;
                }
            }
            return housesOf(best);
        }

        private boolean isApart(int set) {
            for (int i = 0; i < many; i++) {
                int others = set & ~(1 << i);
                if (others != set && (others & ~good[i]) != 0) {
                    return false;
                }
            }
            return true;
        }

        private int housesOf(int set) {
            int houses = 0;
            for (int i = 0; i < many; i++) {
                houses |= (set >> i & 1) << homes[i];
            }
            return houses;
        }
    }

    /** THE TEXT, and the street that it tells. */
    private static final class Reader {
        private static final int END = 0, WORD = 1, NUMBER = 2, STOP = 3, OTHER = 4;

        final int[] row = new int[HOUSES];
        int length;
        int law;
        int items;
        int fault = NO_FAULT;
        private final byte[] text = new byte[TEXT_ROOM];
        private int at;
        private int token;
        private int start;
        private int value;

        boolean take(int c) {
            if (length >= TEXT_ROOM) {
                return false;
            }
            text[length] = (byte) c;
            length++;
            return true;
        }

        void parse() {
            fault = NO_FAULT;
            items = 0;
            at = 0;
            for (int h = 0; h < HOUSES; h++) {
                row[h] = 0;
            }
            scan();
            parseStreet();
            for (int i = 0; i < TEXT_ROOM && fault == NO_FAULT; i++) {
                scan();
                if (token == END) {
                    return;
                }
                parseHouse();
            }
        }

        private void parseStreet() {
            expectWord("street");
            int kind = expectNumber(KINDS - 1);
            int n = expectNumber(9);
            expectStop();
            law = 10 * kind + n;
            items++;
        }

        private void parseHouse() {
            expectWord("house");
            int h = expectNumber(HOUSES - 1);
            int x = expectNumber(NUMBERS);
            expectStop();
            if (isHouse(h)) {
                row[h] = x;
            }
            items++;
        }

        private void expectWord(String word) {
            if (token != WORD || !tokenIs(word)) {
                fault = start;
            }
        }

        private boolean tokenIs(String word) {
            if (at - start != word.length()) {
                return false;
            }
            for (int i = 0; i < word.length(); i++) {
                if (byteAt(start + i) != word.charAt(i)) {
                    return false;
                }
            }
            return true;
        }

        /** Behind a fault nothing more is looked at: the first one counts. */
        private int expectNumber(int greatest) {
            if (fault != NO_FAULT) {
                return 0;
            }
            scan();
            if (token != NUMBER || value < 0 || value > greatest) {
                fault = start;
                return 0;
            }
            return value;
        }

        private void expectStop() {
            if (fault != NO_FAULT) {
                return;
            }
            scan();
            if (token != STOP) {
                fault = start;
            }
        }

        private void scan() {
            while (at < length && byteAt(at) == ' ') {
                at++;
            }
            start = at;
            int c = byteAt(at);
            if (c < 0) {
                token = END;
            } else if (isLetter(c)) {
                token = WORD;
                passWord();
            } else if (isFigure(c)) {
                token = NUMBER;
                passNumber();
            } else {
                token = c == ';' ? STOP : OTHER;
                at++;
            }
        }

        private void passWord() {
            while (at < length && isLetter(byteAt(at))) {
                at++;
            }
        }

        /** A number of more than three figures is one token still, with a value that fits nowhere. */
        private void passNumber() {
            value = 0;
            while (at < length && isFigure(byteAt(at))) {
                value = at - start < 3 ? 10 * value + byteAt(at) - '0' : -1;
                at++;
            }
        }

        private int byteAt(int i) {
            return i >= 0 && i < length && i < TEXT_ROOM ? text[i] : -1;
        }

        private static boolean isLetter(int c) {
            return c >= 'a' && c <= 'z';
        }

        private static boolean isFigure(int c) {
            return c >= '0' && c <= '9';
        }
    }

    /** All that an image keeps. */
    private static final class State {
        private static final int ROOM = 3 * KEPT;
        private static final int STEP = HOUSES + 1;

        final int[] row = new int[HOUSES];
        int law;
        /** Threes of x, may, the law then. */
        final int[] readings = new int[ROOM];
        int readingCount;
        /** Threes of a, b, may. */
        final int[] notes = new int[ROOM];
        int noteCount;
        int pastCount;
        /** Steps of the houses and the law behind them, the oldest first. */
        private final int[] past = new int[KEPT * STEP];

        void begin(int firstLaw) {
            for (int h = 0; h < HOUSES; h++) {
                row[h] = 0;
            }
            law = firstLaw;
            readingCount = 0;
            noteCount = 0;
            pastCount = 0;
        }

        void copyFrom(State other) {
            System.arraycopy(other.row, 0, row, 0, HOUSES);
            System.arraycopy(other.readings, 0, readings, 0, ROOM);
            System.arraycopy(other.notes, 0, notes, 0, ROOM);
            System.arraycopy(other.past, 0, past, 0, KEPT * STEP);
            law = other.law;
            readingCount = other.readingCount;
            noteCount = other.noteCount;
            pastCount = other.pastCount;
        }

        int living() {
            int many = 0;
            for (int h = 0; h < HOUSES; h++) {
                if (row[h] > 0) {
                    many++;
                }
            }
            return many;
        }

        void remember() {
            if (pastCount >= KEPT) {
                System.arraycopy(past, STEP, past, 0, (KEPT - 1) * STEP);
                pastCount = KEPT - 1;
            }
            int start = pastCount * STEP;
            System.arraycopy(row, 0, past, start, HOUSES);
            past[start + HOUSES] = law;
            pastCount++;
        }

        boolean goBack() {
            if (pastCount < 1) {
                return false;
            }
            pastCount--;
            int start = pastCount * STEP;
            System.arraycopy(past, start, row, 0, HOUSES);
            law = past[start + HOUSES];
            return true;
        }

        void addReading(int x, int is) {
            addThree(readings, readingCount, x, is, law);
            readingCount++;
        }

        void addNote(int a, int b, int is) {
            addThree(notes, noteCount, a, b, is);
            noteCount++;
        }

        private static void addThree(int[] threes, int many, int first, int second, int third) {
            int start = 3 * many;
            if (start >= 0 && start + 2 < threes.length) {
                threes[start] = first;
                threes[start + 1] = second;
                threes[start + 2] = third;
            }
        }
    }
}
