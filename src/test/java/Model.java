import java.math.BigInteger;
import java.util.ArrayDeque;
import java.util.ArrayList;
import java.util.Arrays;
import java.util.List;
import java.util.regex.Matcher;
import java.util.regex.Pattern;

/**
 * The document once more, written apart from the class and without its shortcuts: every row of
 * choices is walked, every way of pairing is listed. ModelTest holds the two against each other.
 */
public final class Model {
    record Driver(int kind, int grief, int miles) {}

    record Moment(int day, List<Driver> drivers) {}

    record State(int day, List<Driver> drivers, List<int[]> notes, List<int[]> gone, List<Moment> past) {
        static State first() {
            return new State(0, List.of(), List.of(), List.of(), List.of());
        }
    }

    private static final int[] PARENT = {-1, 0, 0, 0, 1, 3};

    private State now = State.first();
    private final State[] images = new State[2];
    private final StringBuilder text = new StringBuilder();
    private BigInteger above = BigInteger.ZERO;
    private BigInteger below = BigInteger.ONE;
    private final int[] refused = new int[3];

    // kinds, by the parent's number

    static int runs(int kind, int s, int g) {
        if (kind == 0) {
            return s == 0 ? 2 * g / 2 : 2 * g;
        }
        int up = runs(PARENT[kind], s, g);
        return switch (kind) {
            case 2 -> up / 3;
            case 3 -> s == 1 ? 0 : up;
            case 5 -> Math.min(up, 30);
            default -> up;
        };
    }

    static int raw(int kind, int c, int g) {
        if (kind == 0) {
            return c == 0 ? g - 1 - g / 10 : c == 1 ? g + 4 : g - 1;
        }
        int up = raw(PARENT[kind], c, g);
        if (kind == 1 && c == 0) {
            return Math.min(up + 1, g);
        }
        if (kind == 2 && c == 1) {
            return up / 2;
        }
        if (kind == 4 && c == 1) {
            return up + 4;
        }
        if (kind == 4 && c == 2) {
            return up - 2;
        }
        return kind == 5 && c == 2 ? g : up;
    }

    static int left(int kind, int c, int g) {
        return Math.min(99, Math.max(0, raw(kind, c, g)));
    }

    static int season(int d) {
        return (d % 80) / 20;
    }

    private static Driver after(Driver d, int c, int day) {
        int gained = c == 0 ? runs(d.kind, season(day), d.grief) : 0;
        return new Driver(d.kind, left(d.kind, c, d.grief), d.miles + gained);
    }

    private static List<Driver> afterAll(List<Driver> all, int one, int c, int day) {
        List<Driver> then = new ArrayList<>();
        for (int i = 0; i < all.size(); i++) {
            then.add(after(all.get(i), one < 0 || one == i ? c : 2, day));
        }
        return List.copyOf(then);
    }

    private static int milesOf(List<Driver> all) {
        return all.stream().mapToInt(Driver::miles).sum();
    }

    private int bad() {
        refused[0]++;
        return -2;
    }

    private int badTen() {
        refused[0]++;
        return -10;
    }

    private int no() {
        refused[1]++;
        return -3;
    }

    private int full() {
        refused[2]++;
        return -4;
    }

    private boolean isDriver(int i) {
        return 0 <= i && i < now.drivers.size();
    }

    private static boolean in(int v, int a, int b) {
        return a <= v && v <= b;
    }

    private static <T> List<T> with(List<T> all, T more) {
        List<T> longer = new ArrayList<>(all);
        longer.add(more);
        return List.copyOf(longer);
    }

    // a rank

    public int rank() {
        int were = now.drivers.size();
        now = State.first();
        return were;
    }

    public int driver(int kind, int grief) {
        if (!in(kind, 0, 5) || !in(grief, 0, 99)) {
            return bad();
        }
        if (now.drivers.size() == 6) {
            return full();
        }
        List<Driver> more = with(now.drivers, new Driver(kind, grief, 0));
        now = new State(now.day, more, now.notes, now.gone, List.of());
        return now.drivers.size() - 1;
    }

    public int type(int c) {
        if (!in(c, 0, 127)) {
            return bad();
        }
        if (text.length() == 150) {
            return full();
        }
        text.append((char) c);
        return text.length();
    }

    public int clear() {
        int were = text.length();
        text.setLength(0);
        return were;
    }

    /** Tokens as pairs of place and text, then reads them by a row of what may stand next. */
    public int read() {
        List<Integer> places = new ArrayList<>();
        List<String> tokens = new ArrayList<>();
        Matcher m = Pattern.compile("[a-z]+|[0-9]+|[^ ]", Pattern.DOTALL).matcher(text);
        while (m.find()) {
            places.add(m.start());
            tokens.add(m.group());
        }
        places.add(text.length());
        tokens.add("");
        int day = 0;
        List<Driver> drivers = List.of();
        int at = 0;
        int items = 0;
        while (items == 0 || !tokens.get(at).isEmpty()) {
            String word = tokens.get(at);
            boolean stands = items == 0 ? word.equals("rank")
                : word.equals("days") || word.equals("driver") && drivers.size() < 6;
            if (!stands) {
                return -10 - places.get(at);
            }
            at++;
            int[] numbers = new int[2];
            for (int k = 0; k < 2 && items > 0; k++) {
                int low = word.equals("days") && k == 0 ? 1 : 0;
                int high = word.equals("days") ? (k == 0 ? 99 : 2) : k == 0 ? 5 : 99;
                if (!tokens.get(at).matches("[0-9]{1,2}") || !in(Integer.parseInt(tokens.get(at)), low, high)) {
                    return -10 - places.get(at);
                }
                numbers[k] = Integer.parseInt(tokens.get(at++));
            }
            if (!tokens.get(at).equals(";")) {
                return -10 - places.get(at);
            }
            at++;
            items++;
            if (word.equals("driver")) {
                drivers = with(drivers, new Driver(numbers[0], numbers[1], 0));
            }
            for (int d = 0; word.equals("days") && d < numbers[0]; d++) {
                drivers = afterAll(drivers, -1, numbers[1], day++);
            }
        }
        now = new State(day, drivers, List.of(), List.of(), List.of());
        return items;
    }

    // days

    private int pass(int n, int one, int c) {
        if (now.day == 9999) {
            return 0;
        }
        List<Moment> past = with(now.past, new Moment(now.day, now.drivers));
        if (past.size() > 8) {
            past = past.subList(1, 9);
        }
        List<Driver> drivers = now.drivers;
        int last = Math.min(9999, now.day + n);
        for (int d = now.day; d < last; d++) {
            drivers = afterAll(drivers, one, c, d);
        }
        int gained = milesOf(drivers) - milesOf(now.drivers);
        now = new State(last, drivers, now.notes, now.gone, List.copyOf(past));
        return gained;
    }

    public int days(int n, int c) {
        return in(n, 1, 99) && in(c, 0, 2) ? pass(n, -1, c) : bad();
    }

    public int day(int i, int c) {
        return isDriver(i) && in(c, 0, 2) ? pass(1, i, c) : bad();
    }

    public int undo() {
        if (now.past.isEmpty()) {
            return no();
        }
        int last = now.past.size() - 1;
        Moment then = now.past.get(last);
        now = new State(then.day, then.drivers, now.notes, now.gone, now.past.subList(0, last));
        return now.day;
    }

    public int of(int i, int what) {
        if (!isDriver(i) || !in(what, 0, 2)) {
            return bad();
        }
        Driver d = now.drivers.get(i);
        return what == 0 ? d.kind : what == 1 ? d.grief : d.miles;
    }

    // how far

    public int today(int i, int c) {
        if (!isDriver(i) || !in(c, -1, 2)) {
            return bad();
        }
        Driver d = now.drivers.get(i);
        return c == -1 ? runs(d.kind, season(now.day), d.grief) : left(d.kind, c, d.grief);
    }

    public int then(int i, int m, int c, int what) {
        if (!isDriver(i) || !in(m, 0, 99) || !in(c, 0, 2) || !in(what, 0, 1)) {
            return bad();
        }
        Driver d = now.drivers.get(i);
        for (int k = 0; k < m; k++) {
            d = after(d, c, now.day + k);
        }
        return what == 0 ? d.grief : d.miles;
    }

    public int over(int i) {
        if (!isDriver(i)) {
            return bad();
        }
        for (int m = 0; m <= 99; m++) {
            if (then(i, m, 0, 0) == 0) {
                return m;
            }
        }
        return -1;
    }

    /** All rows of n choices, rising. */
    private static List<int[]> rows(int n) {
        List<int[]> all = new ArrayList<>();
        int many = (int) Math.pow(3, n);
        for (int r = 0; r < many; r++) {
            int[] row = new int[n];
            int rest = r;
            for (int k = n - 1; k >= 0; k--) {
                row[k] = rest % 3;
                rest /= 3;
            }
            all.add(row);
        }
        return all;
    }

    /** The miles of each day of a row. */
    private int[] walk(int i, int[] row) {
        Driver d = now.drivers.get(i);
        int[] miles = new int[row.length];
        for (int k = 0; k < row.length; k++) {
            Driver then = after(d, row[k], now.day + k);
            miles[k] = then.miles - d.miles;
            d = then;
        }
        return miles;
    }

    public int most(int i, int n, int k) {
        if (!isDriver(i) || !in(n, 1, 7) || k < -1) {
            return badTen();
        }
        if (k >= n) {
            return -5;
        }
        int best = -1;
        int[] first = {};
        for (int[] row : rows(n)) {
            int sum = Arrays.stream(walk(i, row)).sum();
            if (sum > best) {
                best = sum;
                first = row;
            }
        }
        return k == -1 ? best : first[k];
    }

    public int soonest(int i, int x) {
        if (!isDriver(i) || !in(x, 1, 999)) {
            return bad();
        }
        for (int n = 1; n <= 7; n++) {
            for (int[] row : rows(n)) {
                if (Arrays.stream(walk(i, row)).sum() >= x) {
                    return n;
                }
            }
        }
        return -1;
    }

    public int home(int i, int n, int what) {
        if (!isDriver(i) || !in(n, 2, 7) || !in(what, 0, 1)) {
            return bad();
        }
        int best = -1;
        int turn = -1;
        for (int t = 1; t < n; t++) {
            for (int[] row : rows(n)) {
                int[] miles = walk(i, row);
                int out = Arrays.stream(miles, 0, t).sum();
                int far = Math.min(out, Arrays.stream(miles).sum() - out);
                if (far > best) {
                    best = far;
                    turn = t;
                }
            }
        }
        return what == 0 ? best : turn;
    }

    /** All ways of pairing, in the document's order. */
    private static void ways(int[] partner, int i, List<int[]> all) {
        int n = partner.length;
        if (i == n) {
            all.add(partner.clone());
            return;
        }
        if (partner[i] >= 0) {
            ways(partner, i + 1, all);
            return;
        }
        for (int j = i + 1; j < n; j++) {
            if (partner[j] < 0) {
                int[] next = partner.clone();
                next[i] = j;
                next[j] = i;
                ways(next, i + 1, all);
            }
        }
        ways(partner, i + 1, all);
    }

    public int tell(int i) {
        if (i != -1 && !isDriver(i)) {
            return badTen();
        }
        int[] none = new int[now.drivers.size()];
        Arrays.fill(none, -1);
        List<int[]> all = new ArrayList<>();
        ways(none, 0, all);
        int best = -1;
        int[] first = none;
        for (int[] way : all) {
            int sum = 0;
            for (int a = 0; a < way.length; a++) {
                if (way[a] > a) {
                    Driver one = now.drivers.get(a);
                    Driver other = now.drivers.get(way[a]);
                    sum += Math.min(one.grief, other.grief) + (one.kind != other.kind ? 1 : 0);
                }
            }
            if (sum > best) {
                best = sum;
                first = way;
            }
        }
        return i == -1 ? best : first[i];
    }

    // what it is

    public int note(int i, int g, int s, int x, int c, int y) {
        if (!isDriver(i) || !in(g, 0, 99) || !in(s, 0, 3) || !in(x, 0, 200) || !in(c, 0, 2) || !in(y, 0, 99)) {
            return bad();
        }
        if (now.notes.size() == 6) {
            return full();
        }
        List<int[]> more = with(now.notes, new int[] {i, g, s, x, c, y});
        now = new State(now.day, now.drivers, more, now.gone, now.past);
        return more.size();
    }

    public int gone(int i, int n, int x) {
        if (!isDriver(i) || !in(n, 1, 30) || !in(x, 0, 6000)) {
            return bad();
        }
        if (now.gone.size() == 4) {
            return full();
        }
        List<int[]> more = with(now.gone, new int[] {i, n, x});
        now = new State(now.day, now.drivers, now.notes, more, now.past);
        return more.size();
    }

    public int forget(int what) {
        if (!in(what, 0, 1)) {
            return bad();
        }
        int were = what == 0 ? now.notes.size() : now.gone.size();
        now = new State(now.day, now.drivers, what == 0 ? List.of() : now.notes,
            what == 1 ? List.of() : now.gone, now.past);
        return were;
    }

    private List<Integer> fitting(int i) {
        List<Integer> fit = new ArrayList<>();
        for (int kind = 0; kind < 6; kind++) {
            final int k = kind;
            if (now.notes.stream().filter(n -> n[0] == i)
                    .allMatch(n -> runs(k, n[2], n[1]) == n[3] && left(k, n[4], n[1]) == n[5])) {
                fit.add(k);
            }
        }
        return fit;
    }

    public int is(int i) {
        return isDriver(i) ? fitting(i).stream().mapToInt(k -> 1 << k).sum() : bad();
    }

    public int look(int i) {
        if (!isDriver(i)) {
            return bad();
        }
        List<Integer> fit = fitting(i);
        if (fit.isEmpty()) {
            return -1;
        }
        int g = now.drivers.get(i).grief;
        int best = -1;
        int fewest = 99;
        for (int code : new int[] {0, 1, 2, 10, 11, 12, 20, 21, 22, 30, 31, 32}) {
            java.util.Map<String, Integer> groups = new java.util.HashMap<>();
            for (int k : fit) {
                groups.merge(runs(k, code / 10, g) + "/" + left(k, code % 10, g), 1, Integer::sum);
            }
            int most = groups.values().stream().max(Integer::compare).get();
            if (most < fewest) {
                fewest = most;
                best = code;
            }
        }
        return best;
    }

    public int had(int i, int what) {
        if (!isDriver(i) || !in(what, 0, 1)) {
            return bad();
        }
        int kind = now.drivers.get(i).kind;
        List<Integer> fit = new ArrayList<>();
        for (int g = 0; g <= 99; g++) {
            Driver d = new Driver(kind, g, 0);
            int[] milesBehind = new int[31];
            for (int day = 0; day < 30; day++) {
                d = after(d, 0, day);
                milesBehind[day + 1] = d.miles;
            }
            if (now.gone.stream().filter(x -> x[0] == i).allMatch(x -> milesBehind[x[1]] == x[2])) {
                fit.add(g);
            }
        }
        return what == 0 ? fit.size() : fit.isEmpty() ? -1 : fit.get(0);
    }

    /** What the one gets, and behind it what the other does. */
    private int gets(int i, int does, int other) {
        Driver d = now.drivers.get(i);
        int runs = runs(d.kind, season(now.day), d.grief);
        int saved = left(d.kind, 2, d.grief) - left(d.kind, 0, d.grief);
        return does == 1 ? saved : other == 0 ? runs / 2 : runs;
    }

    public int fares(int a, int b) {
        if (!isDriver(a) || !isDriver(b) || a == b) {
            return bad();
        }
        int bits = 0;
        for (int x = 0; x <= 1; x++) {
            for (int y = 0; y <= 1; y++) {
                if (gets(a, 1 - x, y) <= gets(a, x, y) && gets(b, 1 - y, x) <= gets(b, y, x)) {
                    bits += 1 << (x + 2 * y);
                }
            }
        }
        return bits;
    }

    /** All 2^n rows of mornings, each with its odds over 10^n. */
    public int starts(int i, int n, int c) {
        if (!isDriver(i) || !in(n, 0, 6) || !in(c, 0, 10)) {
            return bad();
        }
        BigInteger sum = BigInteger.ZERO;
        for (int mask = 0; mask < 1 << n; mask++) {
            Driver d = now.drivers.get(i);
            BigInteger odds = BigInteger.ONE;
            for (int k = 0; k < n; k++) {
                boolean fails = (mask >> k & 1) == 1;
                odds = odds.multiply(BigInteger.valueOf(fails ? c : 10 - c));
                d = after(d, fails ? 2 : 0, now.day + k);
            }
            sum = sum.add(odds.multiply(BigInteger.valueOf(d.miles - now.drivers.get(i).miles)));
        }
        BigInteger whole = BigInteger.TEN.pow(n);
        BigInteger common = sum.gcd(whole);
        above = sum.divide(common);
        below = whole.divide(common);
        return 1;
    }

    public int years(int seed, int n) {
        if (!in(seed, 0, 999999) || !in(n, 0, 60)) {
            return bad();
        }
        BigInteger x = BigInteger.valueOf(seed);
        List<Driver> drivers = new ArrayList<>(now.drivers);
        for (int d = 0; d < n; d++) {
            for (int i = 0; i < drivers.size(); i++) {
                x = x.multiply(BigInteger.valueOf(1103515245)).add(BigInteger.valueOf(12345))
                    .mod(BigInteger.valueOf(2147483648L));
                int c = x.divide(BigInteger.valueOf(65536)).mod(BigInteger.valueOf(3)).intValue();
                drivers.set(i, after(drivers.get(i), c, now.day + d));
            }
        }
        return milesOf(drivers) - milesOf(now.drivers);
    }

    // what there is

    public long part(int what) {
        return what == 0 ? above.longValue() : what == 1 ? below.longValue() : bad();
    }

    public int image(int i) {
        if (!in(i, 0, 1)) {
            return bad();
        }
        images[i] = now;
        return 1;
    }

    public int from(int i) {
        if (!in(i, 0, 1)) {
            return bad();
        }
        if (images[i] == null) {
            return no();
        }
        now = images[i];
        return 1;
    }

    public int status(int what) {
        if (in(what, 0, 2)) {
            return refused[what];
        }
        bad();
        return -1;
    }

    public int count(int what) {
        return switch (what) {
            case 0 -> now.drivers.size();
            case 1 -> now.day;
            case 2 -> now.drivers.stream().mapToInt(Driver::grief).sum();
            case 3 -> milesOf(now.drivers);
            case 4 -> now.notes.size();
            case 5 -> now.gone.size();
            case 6 -> now.past.size();
            case 7 -> text.length();
            default -> bad();
        };
    }

    public long digest() {
        ArrayDeque<Long> row = new ArrayDeque<>();
        for (int k = 0; k <= 7; k++) {
            row.add((long) count(k));
        }
        for (Driver d : now.drivers) {
            row.add((long) d.kind);
            row.add((long) d.grief);
            row.add((long) d.miles);
        }
        for (List<int[]> lists : List.of(now.notes, now.gone)) {
            for (int[] one : lists) {
                for (int v : one) {
                    row.add((long) v);
                }
            }
        }
        row.add(above.longValue());
        row.add(below.longValue());
        long h = 1433;
        for (long v : row) {
            h = 31 * h + v;
        }
        return h;
    }
}
