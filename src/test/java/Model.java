import java.math.BigInteger;
import java.util.ArrayDeque;
import java.util.ArrayList;
import java.util.Arrays;
import java.util.LinkedHashSet;
import java.util.List;
import java.util.regex.Matcher;
import java.util.regex.Pattern;

/** The document once more, by trying everything: slow, and as far from the class's own ways as can be. */
final class Model {
    /** What images keep. */
    private static final class Kept {
        int[] row = new int[8];
        int kind;
        int n;
        List<int[]> readings = new ArrayList<>();
        List<int[]> notes = new ArrayList<>();
        ArrayDeque<int[]> past = new ArrayDeque<>();

        Kept copy() {
            Kept c = new Kept();
            c.row = row.clone();
            c.kind = kind;
            c.n = n;
            c.readings = new ArrayList<>(readings);
            c.notes = new ArrayList<>(notes);
            c.past = new ArrayDeque<>(past);
            return c;
        }
    }

    private Kept now = new Kept();
    private final Kept[] images = new Kept[2];
    private final StringBuilder text = new StringBuilder();
    private BigInteger above = BigInteger.ZERO;
    private BigInteger below = BigInteger.ONE;
    private final int[] refusals = new int[3];

    private int refuse(int counter, int answer) {
        refusals[counter]++;
        return answer;
    }

    private int bad() {
        return refuse(0, -2);
    }

    private static boolean in(int low, int x, int high) {
        return low <= x && x <= high;
    }

    /** Looked up: found anew for each pair, parts and primes would take most of the test's time. */
    private static final int[] PARTS = new int[10000];
    private static final boolean[] PRIMES = new boolean[301];

    static {
        for (int x = 1; x < PARTS.length; x++) {
            PARTS[x] = addParts(x);
        }
        for (int x = 2; x < PRIMES.length; x++) {
            PRIMES[x] = BigInteger.valueOf(x).isProbablePrime(30);
        }
    }

    static int parts(int x) {
        return PARTS[x];
    }

    private static int addParts(int x) {
        int sum = 0;
        for (int d = 1; d < x; d++) {
            if (x % d == 0) {
                sum += d;
            }
        }
        return sum;
    }

    static boolean prime(int x) {
        return PRIMES[x];
    }

    static boolean square(int x) {
        int r = (int) Math.round(Math.sqrt(x));
        return r * r == x;
    }

    private static boolean divides(int a, int b) {
        return b % a == 0;
    }

    static boolean lets(int kind, int n, int a, int b) {
        boolean plain = !(a != b && (divides(a, b) || divides(b, a)));
        boolean even = plain && a % 2 == b % 2;
        boolean noPrimes = plain && !prime(a) && !prime(b);
        switch (kind) {
            case 0: return plain;
            case 1: return even;
            case 2: return noPrimes;
            case 3: return even || square(a) && square(b);
            case 4: return plain && (a - b >= n || b - a >= n);
            default: return noPrimes || parts(a) == b && parts(b) == a;
        }
    }

    private boolean beside(int[] row, int h) {
        return row[h] == 0 || row[h + 1] == 0 || lets(now.kind, now.n, row[h], row[h + 1]);
    }

    private int pairs(int[] row) {
        int many = 0;
        for (int h = 0; h < 7; h++) {
            many += beside(row, h) ? 0 : 1;
        }
        return many;
    }

    private int living() {
        return (int) Arrays.stream(now.row).filter(x -> x > 0).count();
    }

    private void remember() {
        int[] step = Arrays.copyOf(now.row, 10);
        step[8] = now.kind;
        step[9] = now.n;
        now.past.addLast(step);
        if (now.past.size() > 8) {
            now.past.removeFirst();
        }
    }

    int street(int kind, int n) {
        if (!in(0, kind, 5) || !in(0, n, 9)) {
            return bad();
        }
        int lived = living();
        now = new Kept();
        now.kind = kind;
        now.n = n;
        return lived;
    }

    int rule(int kind, int n) {
        if (!in(0, kind, 5) || !in(0, n, 9)) {
            return bad();
        }
        remember();
        int was = 10 * now.kind + now.n;
        now.kind = kind;
        now.n = n;
        return was;
    }

    int house(int h, int x) {
        if (!in(0, h, 7) || !in(0, x, 300)) {
            return bad();
        }
        remember();
        int was = now.row[h];
        now.row[h] = x;
        return was;
    }

    int birthday(int h) {
        if (!in(0, h, 7)) {
            return bad();
        }
        if (now.row[h] == 0 || now.row[h] == 300) {
            return refuse(1, -3);
        }
        remember();
        return ++now.row[h];
    }

    int swap(int h, int k) {
        if (!in(0, h, 7) || !in(0, k, 7) || h == k) {
            return bad();
        }
        if (now.row[h] == 0 && now.row[k] == 0) {
            return refuse(1, -3);
        }
        remember();
        int x = now.row[h];
        now.row[h] = now.row[k];
        now.row[k] = x;
        return 1;
    }

    int undo() {
        if (now.past.isEmpty()) {
            return refuse(1, -3);
        }
        int[] step = now.past.removeLast();
        now.row = Arrays.copyOf(step, 8);
        now.kind = step[8];
        now.n = step[9];
        return living();
    }

    int type(int c) {
        if (!in(0, c, 127)) {
            return bad();
        }
        if (text.length() == 150) {
            return refuse(2, -4);
        }
        text.append((char) c);
        return text.length();
    }

    int clear() {
        int had = text.length();
        text.setLength(0);
        return had;
    }

    private static final Pattern TOKEN = Pattern.compile("[a-z]+|[0-9]+|[^ ]", Pattern.DOTALL);

    int read() {
        List<String> tokens = new ArrayList<>();
        List<Integer> places = new ArrayList<>();
        Matcher m = TOKEN.matcher(text);
        while (m.find()) {
            tokens.add(m.group());
            places.add(m.start());
        }
        Kept told = new Kept();
        String[] words = {"street", "house"};
        int[][] tops = {{5, 9}, {7, 300}};
        int[] values = new int[2];
        for (int i = 0; i < tokens.size(); i++) {
            String t = tokens.get(i);
            int item = i < 4 ? 0 : 1;
            boolean fits;
            switch (i % 4) {
                case 0: fits = t.equals(words[item]); break;
                case 3: fits = t.equals(";"); break;
                default:
                    fits = t.matches("[0-9]{1,3}") && Integer.parseInt(t) <= tops[item][i % 4 - 1];
                    if (fits) {
                        values[i % 4 - 1] = Integer.parseInt(t);
                    }
            }
            if (!fits) {
                return -10 - places.get(i);
            }
            if (i == 3) {
                told.kind = values[0];
                told.n = values[1];
            } else if (i % 4 == 3) {
                told.row[values[0]] = values[1];
            }
        }
        if (tokens.isEmpty() || tokens.size() % 4 != 0) {
            return -10 - text.length();
        }
        now = told;
        return tokens.size() / 4;
    }

    int of(int h, int what) {
        if (!in(0, h, 7) || !in(0, what, 4)) {
            return bad();
        }
        int x = now.row[h];
        if (x == 0) {
            return 0;
        }
        switch (what) {
            case 0: return x;
            case 1: return parts(x);
            case 2: return prime(x) ? 1 : 0;
            case 3: return square(x) ? 1 : 0;
            default: return h > 0 && !beside(now.row, h - 1) || h < 7 && !beside(now.row, h) ? 1 : 0;
        }
    }

    int may(int a, int b) {
        if (!in(1, a, 300) || !in(1, b, 300)) {
            return bad();
        }
        return lets(now.kind, now.n, a, b) ? 1 : 0;
    }

    int quarrels(int what) {
        if (!in(0, what, 1)) {
            return bad();
        }
        int bits = 0;
        for (int h = 0; h < 8; h++) {
            bits |= of(h, 4) << h;
        }
        return what == 0 ? bits : pairs(now.row);
    }

    int away() {
        int best = 255;
        for (int set = 0; set < 256; set++) {
            int[] row = now.row.clone();
            for (int h = 0; h < 8; h++) {
                if ((set >> h & 1) == 1) {
                    row[h] = 0;
                }
            }
            if (pairs(row) == 0 && Integer.bitCount(set) < Integer.bitCount(best)) {
                best = set;
            }
        }
        return best;
    }

    private List<Integer> homes() {
        List<Integer> homes = new ArrayList<>();
        for (int h = 0; h < 8; h++) {
            if (now.row[h] > 0) {
                homes.add(h);
            }
        }
        return homes;
    }

    private int ways;
    private int fewest;
    private int[] first;

    private void permute(List<Integer> homes, int place, int[] row, boolean[] used, int moves) {
        if (place == homes.size()) {
            if (pairs(row) == 0) {
                ways++;
                fewest = ways == 1 ? moves : Math.min(fewest, moves);
                first = ways == 1 ? row.clone() : first;
            }
            return;
        }
        int home = homes.get(place);
        for (int from : homes) {
            if (!used[from]) {
                used[from] = true;
                row[home] = now.row[from];
                if (home == 0 || beside(row, home - 1)) {
                    permute(homes, place + 1, row, used, moves + (from == home ? 0 : 1));
                }
                row[home] = 0;
                used[from] = false;
            }
        }
    }

    private void permuteAll() {
        ways = 0;
        fewest = -1;
        first = null;
        permute(homes(), 0, new int[8], new boolean[8], 0);
    }

    int orders(int h) {
        if (!in(-1, h, 7)) {
            return refuse(0, -10);
        }
        permuteAll();
        return h == -1 ? ways : first == null ? -1 : first[h];
    }

    int moved() {
        permuteAll();
        return fewest;
    }

    private int extend(List<Integer> left, int last) {
        int best = 0;
        for (int i = 0; i < left.size(); i++) {
            int x = left.get(i);
            if (last == 0 || !divides(x, last) && !divides(last, x)) {
                List<Integer> rest = new ArrayList<>(left);
                rest.remove(i);
                best = Math.max(best, 1 + extend(rest, x));
            }
        }
        return best;
    }

    int longest() {
        List<Integer> all = new ArrayList<>();
        for (int h : homes()) {
            all.add(now.row[h]);
        }
        return extend(all, 0);
    }

    int greatest(int what) {
        if (!in(0, what, 1)) {
            return bad();
        }
        int best = 0;
        sets:
        for (int set = 0; set < 256; set++) {
            for (int i = 0; i < 8; i++) {
                for (int j = 0; j < 8; j++) {
                    boolean both = (set >> i & 1) == 1 && (set >> j & 1) == 1;
                    if (both && (now.row[i] == 0 || i != j && now.row[j] > 0 && divides(now.row[i], now.row[j]))) {
                        continue sets;
                    }
                }
            }
            if (Integer.bitCount(set) > Integer.bitCount(best)) {
                best = set;
            }
        }
        return what == 0 ? Integer.bitCount(best) : best;
    }

    int chain(int x, int what) {
        if (!in(1, x, 300) || !in(0, what, 2)) {
            return bad();
        }
        LinkedHashSet<Integer> seen = new LinkedHashSet<>();
        int at = x;
        while (at != 0 && at <= 9999 && seen.size() < 20 && seen.add(at)) {
            at = parts(at);
        }
        return what == 0 ? seen.size() : what == 1 ? at : parts(x) == x ? 1 : 0;
    }

    int meet() {
        for (int day = 0; day <= 99999; day++) {
            boolean all = true;
            for (int h : homes()) {
                all &= day >= h && (day - h) % now.row[h] == 0;
            }
            if (all) {
                return day;
            }
        }
        return -1;
    }

    int next(int d) {
        if (!in(0, d, 99999)) {
            return bad();
        }
        for (int day = d; day <= d + 310; day++) {
            for (int h : homes()) {
                if (day >= h && (day - h) % now.row[h] == 0) {
                    return day - d;
                }
            }
        }
        return -1;
    }

    int reading(int x, int is) {
        if (!in(1, x, 300) || !in(0, is, 1)) {
            return bad();
        }
        if (now.readings.size() == 8) {
            return refuse(2, -4);
        }
        now.readings.add(new int[] {x, is, 10 * now.kind + now.n});
        return now.readings.size();
    }

    private List<Integer> strangers() {
        List<Integer> all = new ArrayList<>();
        for (int y = 1; y <= 300; y++) {
            int stranger = y;
            if (now.readings.stream().allMatch(r -> lets(r[2] / 10, r[2] % 10, stranger, r[0]) == (r[1] == 1))) {
                all.add(y);
            }
        }
        return all;
    }

    int who(int what) {
        if (!in(0, what, 1)) {
            return refuse(0, -10);
        }
        List<Integer> all = strangers();
        return what == 0 ? all.size() : all.isEmpty() ? -1 : all.get(0);
    }

    int tryNext() {
        List<Integer> all = strangers();
        int best = -1;
        int least = 301;
        for (int x = 1; x <= 300 && !all.isEmpty(); x++) {
            int yes = 0;
            for (int y : all) {
                yes += lets(now.kind, now.n, x, y) ? 1 : 0;
            }
            if (Math.max(yes, all.size() - yes) < least) {
                least = Math.max(yes, all.size() - yes);
                best = x;
            }
        }
        return best;
    }

    int note(int a, int b, int is) {
        if (!in(1, a, 300) || !in(1, b, 300) || !in(0, is, 1)) {
            return bad();
        }
        if (now.notes.size() == 8) {
            return refuse(2, -4);
        }
        now.notes.add(new int[] {a, b, is});
        return now.notes.size();
    }

    int laws(int what) {
        if (!in(0, what, 1)) {
            return refuse(0, -10);
        }
        List<Integer> all = new ArrayList<>();
        for (int law = 0; law < 60; law++) {
            int kind = law / 10;
            int n = law % 10;
            if (now.notes.stream().allMatch(r -> lets(kind, n, r[0], r[1]) == (r[2] == 1))) {
                all.add(law);
            }
        }
        return what == 0 ? all.size() : all.isEmpty() ? -1 : all.get(0);
    }

    int forget(int what) {
        if (!in(0, what, 1)) {
            return bad();
        }
        List<int[]> list = what == 0 ? now.readings : now.notes;
        int were = list.size();
        list.clear();
        return were;
    }

    int split(int h) {
        if (!in(0, h, 7)) {
            return bad();
        }
        int x = now.row[h];
        int free = -1;
        for (int k = 7; k >= 0; k--) {
            free = now.row[k] == 0 ? k : free;
        }
        for (int k = 7; k > h; k--) {
            free = now.row[k] == 0 ? k : free;
        }
        if (x < 2 || free < 0) {
            return -1;
        }
        int[] row = now.row.clone();
        row[h] = x / 2;
        row[free] = (x + 1) / 2;
        return pairs(row);
    }

    int odds(int o) {
        if (!in(0, o, 10)) {
            return bad();
        }
        List<Integer> homes = homes();
        BigInteger sum = BigInteger.ZERO;
        for (int set = 0; set < 1 << homes.size(); set++) {
            int[] row = now.row.clone();
            BigInteger weight = BigInteger.ONE;
            for (int i = 0; i < homes.size(); i++) {
                boolean has = (set >> i & 1) == 1;
                weight = weight.multiply(BigInteger.valueOf(has ? o : 10 - o));
                if (has && row[homes.get(i)] < 300) {
                    row[homes.get(i)]++;
                }
            }
            sum = pairs(row) == 0 ? sum.add(weight) : sum;
        }
        BigInteger all = BigInteger.TEN.pow(homes.size());
        BigInteger shared = all.gcd(sum);
        above = sum.divide(shared);
        below = all.divide(shared);
        return 1;
    }

    int streets(int seed, int n) {
        if (!in(0, seed, 999999) || !in(0, n, 30)) {
            return bad();
        }
        BigInteger x = BigInteger.valueOf(seed);
        int peaceful = 0;
        for (int i = 0; i < n; i++) {
            int[] row = new int[8];
            for (int h = 0; h < 8; h++) {
                x = x.multiply(BigInteger.valueOf(1103515245)).add(BigInteger.valueOf(12345))
                    .mod(BigInteger.ONE.shiftLeft(31));
                row[h] = x.intValue() / 65536 % 301;
            }
            peaceful += pairs(row) == 0 ? 1 : 0;
        }
        return peaceful;
    }

    long part(int what) {
        if (!in(0, what, 1)) {
            return bad();
        }
        return (what == 0 ? above : below).longValueExact();
    }

    int image(int i) {
        if (!in(0, i, 1)) {
            return bad();
        }
        images[i] = now.copy();
        return 1;
    }

    int from(int i) {
        if (!in(0, i, 1)) {
            return bad();
        }
        if (images[i] == null) {
            return refuse(1, -3);
        }
        now = images[i].copy();
        return 1;
    }

    int status(int what) {
        if (!in(0, what, 2)) {
            return refuse(0, -1);
        }
        return refusals[what];
    }

    int count(int what) {
        int[] all = {living(), 10 * now.kind + now.n, now.readings.size(), now.notes.size(), now.past.size(),
            text.length()};
        return in(0, what, 5) ? all[what] : bad();
    }

    long digest() {
        List<Long> all = new ArrayList<>();
        for (int i = 0; i <= 5; i++) {
            all.add((long) count(i));
        }
        for (int x : now.row) {
            all.add((long) x);
        }
        for (List<int[]> threes : List.of(now.readings, now.notes)) {
            for (int[] three : threes) {
                for (int v : three) {
                    all.add((long) v);
                }
            }
        }
        all.add(above.longValueExact());
        all.add(below.longValueExact());
        long h = 1013;
        for (long v : all) {
            h = 31 * h + v;
        }
        return h;
    }
}
