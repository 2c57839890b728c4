/**
 * Keeps a rank of drivers whose engines run on grief: what each day leaves of it, how far it goes,
 * and what can be found out from that. README.md says how to use it.
 */
public final class GriefEngine {
    public static final int NONE = -1, BAD = -2, NO = -3, FULL = -4;

    private static final int DRIVERS = 6;
    private static final int KINDS = 6;
    private static final int GRIEFS = 100;
    private static final int MOST_GRIEF = GRIEFS - 1;
    private static final int LAST_DAY = 9999;
    private static final int MOST_DAYS = 99;
    private static final int SEASON_DAYS = 20;
    private static final int SEASONS = 4;
    private static final int WINTER = 0;
    private static final int SPRINGTIME = 1;
    private static final int DRIVE = 0;
    private static final int TELL = 1;
    private static final int REST = 2;
    private static final int CHOICES = 3;
    private static final int LONGEST_ROW = 7;
    private static final int TEXT_BYTES = 150;
    private static final int NOTES = 6;
    private static final int NOTE_WIDTH = 6;
    private static final int TRIPS = 4;
    private static final int TRIP_WIDTH = 3;
    private static final int UNDOS = 8;
    private static final int UNDO_WIDTH = 1 + 2 * DRIVERS;
    private static final int IMAGES = 2;
    private static final int MOST_STARTS = 6;
    private static final int COUNTS = 8;
    private static final int NOT_SO_MANY = -5;
    private static final int BAD_BELOW_NONE = -10;
    private static final int FAULT_BASE = -10;

    private final Rank live;
    /** A second rank, so that a text or a year can be tried without touching the live one. */
    private final Rank draft;
    private final Rank[] images;
    private final boolean[] kept;
    private final Text text;
    private final Rows rows;
    private final Pairs pairs;
    private final int[] signs;
    private final int[] refused;
    private long above;
    private long below;

    public GriefEngine() {
        live = new Rank();
        draft = new Rank();
        images = new Rank[] {new Rank(), new Rank()};
        kept = new boolean[IMAGES];
        text = new Text();
        rows = new Rows();
        pairs = new Pairs();
        signs = new int[KINDS];
        refused = new int[3];
        above = 0;
        below = 1;
    }

    // ---- a rank

    public int rank() {
        int were = live.size;
        live.reset();
        return were;
    }

    public int driver(int kind, int grief) {
        if (!within(kind, 0, KINDS - 1) || !within(grief, 0, MOST_GRIEF)) {
            return refuse(BAD);
        }
        return refuseIfFull(live.addDriver(kind, grief));
    }

    public int type(int c) {
        if (!within(c, 0, 127)) {
            return refuse(BAD);
        }
        return refuseIfFull(text.append(c));
    }

    public int clear() {
        int had = text.length;
        text.length = 0;
        return had;
    }

    public int read() {
        draft.reset();
        int items = text.takesRank() ? 1 : 0;
        while (items > 0 && items < TEXT_BYTES && text.takesItem(draft.isFull())) {
            items++;
            if (text.isDriver) {
                draft.addDriver(text.first, text.second);
            } else {
                draft.passDays(text.first, NONE, text.second);
            }
        }
        if (!text.isFinished) {
            return FAULT_BASE - text.start;
        }
        live.copyFrom(draft);
        return items;
    }

    // ---- days

    public int days(int n, int c) {
        if (!within(n, 1, MOST_DAYS) || !isChoice(c)) {
            return refuse(BAD);
        }
        live.remember();
        return live.passDays(n, NONE, c);
    }

    public int day(int i, int c) {
        if (!live.has(i) || !isChoice(c)) {
            return refuse(BAD);
        }
        live.remember();
        return live.passDays(1, i, c);
    }

    public int undo() {
        if (live.undoCount <= 0) {
            return refuse(NO);
        }
        live.takeBack();
        return live.today;
    }

    public int of(int i, int what) {
        if (!live.has(i)) {
            return refuse(BAD);
        }
        switch (what) {
            case 0:
                return live.kind[i];
            case 1:
                return live.grief[i];
            case 2:
                return live.miles[i];
            default:
                return refuse(BAD);
        }
    }

    // ---- how far

    public int today(int i, int c) {
        if (!live.has(i) || c != NONE && !isChoice(c)) {
            return refuse(BAD);
        }
        Plain kind = live.kindOf(i);
        int grief = live.grief[i];
        return c == NONE ? kind.runs(seasonOf(live.today), grief) : kind.left(c, grief);
    }

    public int then(int i, int m, int c, int what) {
        if (!live.has(i) || !within(m, 0, MOST_DAYS) || !isChoice(c) || !within(what, 0, 1)) {
            return refuse(BAD);
        }
        Plain kind = live.kindOf(i);
        int grief = live.grief[i];
        int miles = live.miles[i];
        for (int d = 0; d < m; d++) {
            miles += c == DRIVE ? kind.runs(seasonOf(live.today + d), grief) : 0;
            grief = kind.left(c, grief);
        }
        return what == 0 ? grief : miles;
    }

    public int over(int i) {
        if (!live.has(i)) {
            return refuse(BAD);
        }
        Plain kind = live.kindOf(i);
        int grief = live.grief[i];
        for (int d = 0; d <= MOST_DAYS; d++) {
            if (grief == 0) {
                return d;
            }
            grief = kind.left(DRIVE, grief);
        }
        return NONE;
    }

    public int most(int i, int n, int k) {
        if (!live.has(i) || !within(n, 1, LONGEST_ROW) || k < NONE) {
            refuse(BAD);
            return BAD_BELOW_NONE;
        }
        if (k >= n) {
            return NOT_SO_MANY;
        }
        rows.reckon(live, i, n);
        return k == NONE ? rows.mostMiles() : rows.choiceOf(k);
    }

    public int soonest(int i, int x) {
        if (!live.has(i) || !within(x, 1, 999)) {
            return refuse(BAD);
        }
        rows.reckon(live, i, LONGEST_ROW);
        return rows.fewestDaysFor(x);
    }

    public int home(int i, int n, int what) {
        if (!live.has(i) || !within(n, 2, LONGEST_ROW) || !within(what, 0, 1)) {
            return refuse(BAD);
        }
        rows.reckon(live, i, n);
        return what == 0 ? rows.farthestTurn() : rows.firstTurnAt(rows.farthestTurn());
    }

    public int tell(int i) {
        if (i != NONE && !live.has(i)) {
            refuse(BAD);
            return BAD_BELOW_NONE;
        }
        pairs.reckon(live);
        return i == NONE ? pairs.bestWorth : pairs.best[i];
    }

    // ---- what it is

    public int note(int i, int g, int s, int x, int c, int y) {
        boolean before = live.has(i) && within(g, 0, MOST_GRIEF) && within(s, 0, SEASONS - 1);
        if (!before || !within(x, 0, 200) || !isChoice(c) || !within(y, 0, MOST_GRIEF)) {
            return refuse(BAD);
        }
        return refuseIfFull(live.addNote(i, g, s, x, c, y));
    }

    public int gone(int i, int n, int x) {
        if (!live.has(i) || !within(n, 1, 30) || !within(x, 0, 6000)) {
            return refuse(BAD);
        }
        return refuseIfFull(live.addTrip(i, n, x));
    }

    public int forget(int what) {
        if (!within(what, 0, 1)) {
            return refuse(BAD);
        }
        int were = what == 0 ? live.noteCount : live.tripCount;
        if (what == 0) {
            live.noteCount = 0;
        } else {
            live.tripCount = 0;
        }
        return were;
    }

    public int is(int i) {
        if (!live.has(i)) {
            return refuse(BAD);
        }
        return kindsThatFit(i);
    }

    public int look(int i) {
        if (!live.has(i)) {
            return refuse(BAD);
        }
        int fitting = kindsThatFit(i);
        return fitting == 0 ? NONE : bestMorning(fitting, live.grief[i]);
    }

    public int had(int i, int what) {
        if (!live.has(i) || !within(what, 0, 1)) {
            return refuse(BAD);
        }
        int many = 0;
        int least = NONE;
        for (int g = 0; g < GRIEFS; g++) {
            if (live.tripsFit(i, g)) {
                many++;
                least = least == NONE ? g : least;
            }
        }
        return what == 0 ? many : least;
    }

    public int fares(int a, int b) {
        if (!live.has(a) || !live.has(b) || a == b) {
            return refuse(BAD);
        }
        int stable = 0;
        for (int pair = 0; pair < 4; pair++) {
            boolean aRests = (pair & 1) != 0;
            boolean bRests = (pair & 2) != 0;
            if (isContent(a, aRests, bRests) && isContent(b, bRests, aRests)) {
                stable |= 1 << pair;
            }
        }
        return stable;
    }

    public int starts(int i, int n, int c) {
        if (!live.has(i) || !within(n, 0, MOST_STARTS) || !within(c, 0, 10)) {
            return refuse(BAD);
        }
        long mean = tenfoldMean(live.kindOf(i), live.today, live.grief[i], n, c);
        setFraction(mean, tenTo(n));
        return 1;
    }

    public int years(int seed, int n) {
        if (!within(seed, 0, 999999) || !within(n, 0, 60)) {
            return refuse(BAD);
        }
        draft.copyFrom(live);
        long x = seed;
        int sum = 0;
        for (int d = 0; d < n; d++) {
            for (int i = 0; i < draft.size; i++) {
                x = (x * 1103515245L + 12345L) % 2147483648L;
                sum += draft.act(i, (int) (x / 65536L % CHOICES));
            }
            draft.today++;
        }
        return sum;
    }

    // ---- what there is

    public long part(int what) {
        if (!within(what, 0, 1)) {
            return refuse(BAD);
        }
        return what == 0 ? above : below;
    }

    public int image(int i) {
        if (!within(i, 0, IMAGES - 1)) {
            return refuse(BAD);
        }
        images[i].copyFrom(live);
        kept[i] = true;
        return 1;
    }

    public int from(int i) {
        if (!within(i, 0, IMAGES - 1)) {
            return refuse(BAD);
        }
        if (!kept[i]) {
            return refuse(NO);
        }
        live.copyFrom(images[i]);
        return 1;
    }

    public int status(int what) {
        if (!within(what, 0, 2)) {
            refuse(BAD);
            return NONE;
        }
        return refused[what];
    }

    public int count(int what) {
        switch (what) {
            case 0:
                return live.size;
            case 1:
                return live.today;
            case 2:
                return live.sumOf(live.grief);
            case 3:
                return live.sumOf(live.miles);
            case 4:
                return live.noteCount;
            case 5:
                return live.tripCount;
            case 6:
                return live.undoCount;
            case 7:
                return text.length;
            default:
                return refuse(BAD);
        }
    }

    public long digest() {
        long h = 1433;
        for (int what = 0; what < COUNTS; what++) {
            h = 31 * h + count(what);
        }
        for (int i = 0; i < live.size; i++) {
            h = 31 * h + live.kind[i];
            h = 31 * h + live.grief[i];
            h = 31 * h + live.miles[i];
        }
        for (int at = 0; at < live.noteCount * NOTE_WIDTH && at < live.notes.length; at++) {
            h = 31 * h + live.notes[at];
        }
        for (int at = 0; at < live.tripCount * TRIP_WIDTH && at < live.trips.length; at++) {
            h = 31 * h + live.trips[at];
        }
        h = 31 * h + above;
        return 31 * h + below;
    }

    // ---- helpers

    private int refuse(int reason) {
        // BAD, NO and FULL follow one another downwards, as their counts do upwards.
        int at = BAD - reason;
        if (at >= 0 && at < refused.length) {
            refused[at]++;
        }
        return reason;
    }

    private int refuseIfFull(int answer) {
        return answer == FULL ? refuse(FULL) : answer;
    }

    private static boolean within(int v, int low, int high) {
        return v >= low && v <= high;
    }

    private static boolean isChoice(int c) {
        return c >= DRIVE && c <= REST;
    }

    private static int seasonOf(int dayNumber) {
        return dayNumber / SEASON_DAYS % SEASONS;
    }

    private int kindsThatFit(int i) {
        int fitting = 0;
        for (int k = 0; k < KINDS; k++) {
            if (live.notesFit(i, live.kinds[k])) {
                fitting |= 1 << k;
            }
        }
        return fitting;
    }

    private int bestMorning(int fitting, int grief) {
        int fewest = KINDS + 1;
        int best = NONE;
        for (int s = 0; s < SEASONS; s++) {
            for (int c = 0; c < CHOICES; c++) {
                int alike = mostAlike(fitting, s, grief, c);
                if (alike < fewest) {
                    fewest = alike;
                    best = 10 * s + c;
                }
            }
        }
        return best;
    }

    private int mostAlike(int fitting, int season, int grief, int c) {
        for (int k = 0; k < KINDS; k++) {
            Plain kind = live.kinds[k];
            signs[k] = kind.runs(season, grief) * GRIEFS + kind.left(c, grief);
        }
        int most = 0;
        for (int k = 0; k < KINDS; k++) {
            int alike = 0;
            for (int other = 0; other < KINDS; other++) {
                if ((fitting >> other & 1) != 0 && signs[other] == signs[k]) {
                    alike++;
                }
            }
            most = Math.max(most, alike);
        }
        return most;
    }

    private boolean isContent(int i, boolean rests, boolean otherRests) {
        return worthToday(i, rests, otherRests) >= worthToday(i, !rests, otherRests);
    }

    private int worthToday(int i, boolean rests, boolean otherRests) {
        Plain kind = live.kindOf(i);
        int grief = live.grief[i];
        if (rests) {
            return kind.left(REST, grief) - kind.left(DRIVE, grief);
        }
        int runs = kind.runs(seasonOf(live.today), grief);
        return otherRests ? runs : runs / 2;
    }

    /** The mean miles times ten to the n, so that all stays whole. */
    private static long tenfoldMean(Plain kind, int dayNumber, int grief, int n, int c) {
        if (n <= 0 || n > MOST_STARTS) {
            return 0;
        }
        long now = kind.runs(seasonOf(dayNumber), grief) * tenTo(n - 1);
        long driven = tenfoldMean(kind, dayNumber + 1, kind.left(DRIVE, grief), n - 1, c);
        long rested = tenfoldMean(kind, dayNumber + 1, kind.left(REST, grief), n - 1, c);
        return (10 - c) * (now + driven) + c * rested;
    }

    private static long tenTo(int n) {
        long power = 1;
        for (int k = 0; k < n && k < MOST_STARTS; k++) {
            power *= 10;
        }
        return power;
    }

    private void setFraction(long top, long bottom) {
        long common = commonDivisor(top, bottom);
        if (common <= 0) {
            return;
        }
        above = top / common;
        below = bottom / common;
    }

    private static long commonDivisor(long a, long b) {
        // A remainder halves in two steps at most, so a long is through in far fewer than these.
        for (int step = 0; step < 200 && b != 0; step++) {
            long left = a % b;
            a = b;
            b = left;
        }
        return a;
    }

    // ---- the kinds, each under the one it extends

    private static class Plain {
        int runs(int season, int grief) {
            int full = 2 * grief;
            return season == WINTER ? full / 2 : full;
        }

        int behindDriving(int grief) {
            return grief - 1 - grief / 10;
        }

        int behindTelling(int grief) {
            return grief + 4;
        }

        int behindResting(int grief) {
            return grief - 1;
        }

        /** Only here is it kept within bounds, so that kinds reckon on what is not yet cut off. */
        final int left(int c, int grief) {
            int raw;
            if (c == DRIVE) {
                raw = behindDriving(grief);
            } else if (c == TELL) {
                raw = behindTelling(grief);
            } else {
                raw = behindResting(grief);
            }
            return Math.max(0, Math.min(MOST_GRIEF, raw));
        }

        final int milesFromFirstDay(int grief, int n) {
            int sum = 0;
            int now = grief;
            for (int d = 0; d < n; d++) {
                sum += runs(seasonOf(d), now);
                now = left(DRIVE, now);
            }
            return sum;
        }
    }

    private static class Keeper extends Plain {
        int behindDriving(int grief) {
            return Math.min(grief, super.behindDriving(grief) + 1);
        }
    }

    private static final class Sham extends Plain {
        int runs(int season, int grief) {
            return super.runs(season, grief) / 3;
        }

        int behindTelling(int grief) {
            return super.behindTelling(grief) / 2;
        }
    }

    private static class Spring extends Plain {
        int runs(int season, int grief) {
            return season == SPRINGTIME ? 0 : super.runs(season, grief);
        }
    }

    private static final class Teller extends Keeper {
        int behindTelling(int grief) {
            return super.behindTelling(grief) + 4;
        }

        int behindResting(int grief) {
            return super.behindResting(grief) - 2;
        }
    }

    private static final class Old extends Spring {
        int runs(int season, int grief) {
            return Math.min(30, super.runs(season, grief));
        }

        int behindResting(int grief) {
            return grief;
        }
    }

    /** All that an image keeps: drivers, the day, notes, trips, and what may be undone. */
    private static final class Rank {
        final Plain[] kinds = {
            new Plain(), new Keeper(), new Sham(), new Spring(), new Teller(), new Old()
        };
        final int[] kind = new int[DRIVERS];
        final int[] grief = new int[DRIVERS];
        final int[] miles = new int[DRIVERS];
        final int[] notes = new int[NOTES * NOTE_WIDTH];
        final int[] trips = new int[TRIPS * TRIP_WIDTH];
        final int[] past = new int[UNDOS * UNDO_WIDTH];
        int size;
        int today;
        int noteCount;
        int tripCount;
        int undoCount;

        void reset() {
            size = 0;
            today = 0;
            noteCount = 0;
            tripCount = 0;
            undoCount = 0;
        }

        void copyFrom(Rank other) {
            System.arraycopy(other.kind, 0, kind, 0, DRIVERS);
            System.arraycopy(other.grief, 0, grief, 0, DRIVERS);
            System.arraycopy(other.miles, 0, miles, 0, DRIVERS);
            System.arraycopy(other.notes, 0, notes, 0, notes.length);
            System.arraycopy(other.trips, 0, trips, 0, trips.length);
            System.arraycopy(other.past, 0, past, 0, past.length);
            size = other.size;
            today = other.today;
            noteCount = other.noteCount;
            tripCount = other.tripCount;
            undoCount = other.undoCount;
        }

        boolean has(int i) {
            return i >= 0 && i < size;
        }

        boolean isFull() {
            return size >= DRIVERS;
        }

        /** The kind of a driver that is there; plain, where none is. */
        Plain kindOf(int i) {
            int its = has(i) ? kind[i] : 0;
            return its >= 0 && its < kinds.length ? kinds[its] : kinds[0];
        }

        int addDriver(int itsKind, int itsGrief) {
            if (isFull()) {
                return FULL;
            }
            int i = size;
            kind[i] = itsKind;
            grief[i] = itsGrief;
            miles[i] = 0;
            size++;
            undoCount = 0;
            return i;
        }

        /** One driver does c and the others rest; all do c, if the one is NONE. */
        int passDays(int n, int one, int c) {
            int sum = 0;
            for (int d = 0; d < n && today < LAST_DAY; d++) {
                for (int i = 0; i < size; i++) {
                    sum += act(i, one == NONE || one == i ? c : REST);
                }
                today++;
            }
            return sum;
        }

        int act(int i, int c) {
            if (!has(i)) {
                return 0;
            }
            Plain its = kindOf(i);
            int gone = c == DRIVE ? its.runs(seasonOf(today), grief[i]) : 0;
            miles[i] += gone;
            grief[i] = its.left(c, grief[i]);
            return gone;
        }

        /** Keeps what the next days will change; on the last day none come, so none is kept. */
        void remember() {
            if (today >= LAST_DAY) {
                return;
            }
            if (undoCount >= UNDOS) {
                System.arraycopy(past, UNDO_WIDTH, past, 0, past.length - UNDO_WIDTH);
                undoCount = UNDOS - 1;
            }
            int at = undoCount * UNDO_WIDTH;
            past[at] = today;
            System.arraycopy(grief, 0, past, at + 1, DRIVERS);
            System.arraycopy(miles, 0, past, at + 1 + DRIVERS, DRIVERS);
            undoCount++;
        }

        void takeBack() {
            if (undoCount <= 0) {
                return;
            }
            undoCount--;
            int at = undoCount * UNDO_WIDTH;
            today = past[at];
            System.arraycopy(past, at + 1, grief, 0, DRIVERS);
            System.arraycopy(past, at + 1 + DRIVERS, miles, 0, DRIVERS);
        }

        int sumOf(int[] row) {
            int sum = 0;
            for (int i = 0; i < size && i < row.length; i++) {
                sum += row[i];
            }
            return sum;
        }

        int addNote(int i, int g, int s, int x, int c, int y) {
            if (noteCount >= NOTES) {
                return FULL;
            }
            int at = noteCount * NOTE_WIDTH;
            notes[at] = i;
            notes[at + 1] = g;
            notes[at + 2] = s;
            notes[at + 3] = x;
            notes[at + 4] = c;
            notes[at + 5] = y;
            noteCount++;
            return noteCount;
        }

        boolean notesFit(int i, Plain asKind) {
            for (int k = 0; k < noteCount && k < NOTES; k++) {
                int at = k * NOTE_WIDTH;
                if (notes[at] == i) {
                    int g = notes[at + 1];
                    boolean ran = asKind.runs(notes[at + 2], g) == notes[at + 3];
                    if (!ran || asKind.left(notes[at + 4], g) != notes[at + 5]) {
                        return false;
                    }
                }
            }
            return true;
        }

        int addTrip(int i, int n, int x) {
            if (tripCount >= TRIPS) {
                return FULL;
            }
            int at = tripCount * TRIP_WIDTH;
            trips[at] = i;
            trips[at + 1] = n;
            trips[at + 2] = x;
            tripCount++;
            return tripCount;
        }

        boolean tripsFit(int i, int firstGrief) {
            Plain its = kindOf(i);
            for (int k = 0; k < tripCount && k < TRIPS; k++) {
                int at = k * TRIP_WIDTH;
                if (trips[at] == i
                        && its.milesFromFirstDay(firstGrief, trips[at + 1]) != trips[at + 2]) {
                    return false;
                }
            }
            return true;
        }
    }

    /** The text that tells a rank, and its reading, token by token. */
    private static final class Text {
        private static final int END = 0;
        private static final int WORD = 1;
        private static final int NUMBER = 2;
        private static final int STOP = 3;
        private static final int WRONG = 4;

        private final byte[] bytes = new byte[TEXT_BYTES];
        int length;
        /** Where the token in hand begins; behind the last one, the text's length. */
        int start;
        boolean isFinished;
        boolean isDriver;
        int first;
        int second;
        private int sort;
        private int next;
        private int number;

        int append(int c) {
            if (length >= TEXT_BYTES) {
                return FULL;
            }
            bytes[length] = (byte) c;
            length++;
            return length;
        }

        /** Begins anew: the item that must stand first. */
        boolean takesRank() {
            next = 0;
            isFinished = false;
            advance();
            return isWord("rank") && takesStop();
        }

        /** The next item, whole; if not, the text is finished, or the fault is at start. */
        boolean takesItem(boolean noMoreDrivers) {
            advance();
            isFinished = sort == END;
            isDriver = isWord("driver");
            if (isDriver ? noMoreDrivers : !isWord("days")) {
                return false;
            }
            if (isDriver ? !takesNumber(0, KINDS - 1) : !takesNumber(1, MOST_DAYS)) {
                return false;
            }
            first = number;
            if (!takesNumber(0, isDriver ? MOST_GRIEF : REST)) {
                return false;
            }
            second = number;
            return takesStop();
        }

        private boolean takesNumber(int low, int high) {
            advance();
            return sort == NUMBER && number >= low && number <= high;
        }

        private boolean takesStop() {
            advance();
            return sort == STOP;
        }

        /** Goes on to the next token; the end of the text is one, too, at the text's length. */
        private void advance() {
            start = runEnd(next, ' ', ' ');
            next = start;
            if (start >= length) {
                sort = END;
            } else if (isBetween(start, 'a', 'z')) {
                sort = WORD;
                next = runEnd(start, 'a', 'z');
            } else if (isBetween(start, '0', '9')) {
                next = runEnd(start, '0', '9');
                sort = next - start <= 2 ? NUMBER : WRONG;
                number = valueOfRun();
            } else {
                sort = bytes[start] == ';' ? STOP : WRONG;
                next = start + 1;
            }
        }

        private boolean isBetween(int at, char low, char high) {
            return at >= 0 && at < length && bytes[at] >= low && bytes[at] <= high;
        }

        private int runEnd(int from, char low, char high) {
            int at = from;
            while (at < length && isBetween(at, low, high)) {
                at++;
            }
            return at;
        }

        private int valueOfRun() {
            int value = 0;
            for (int at = start; at < next && at < start + 2; at++) {
                value = 10 * value + bytes[at] - '0';
            }
            return value;
        }

        private boolean isWord(String word) {
            if (sort != WORD || next - start != word.length()) {
                return false;
            }
            for (int k = 0; k < word.length(); k++) {
                if (bytes[start + k] != word.charAt(k)) {
                    return false;
                }
            }
            return true;
        }
    }

    /**
     * All rows of choices at once. What comes later hangs on the GRIEF of that day alone, so the
     * most miles to each grief and the most from it on are enough, and no row is walked by itself.
     */
    private static final class Rows {
        /** By days gone and grief then: the most miles up to there; NONE, where no row comes. */
        private final int[][] before = new int[LONGEST_ROW + 1][GRIEFS];
        /** By days gone and grief then: the most miles from there to the row's end. */
        private final int[][] after = new int[LONGEST_ROW + 1][GRIEFS];
        private Plain kind;
        private int firstDay;
        private int firstGrief;
        private int length;

        Rows() {
            kind = new Plain();
        }

        void reckon(Rank rank, int i, int n) {
            if (!rank.has(i)) {
                return;
            }
            kind = rank.kindOf(i);
            firstDay = rank.today;
            firstGrief = Math.max(0, Math.min(MOST_GRIEF, rank.grief[i]));
            length = Math.max(0, Math.min(LONGEST_ROW, n));
            reckonBefore();
            reckonAfter();
        }

        private void reckonBefore() {
            for (int t = 0; t <= length; t++) {
                for (int g = 0; g < GRIEFS; g++) {
                    before[t][g] = NONE;
                }
            }
            before[0][firstGrief] = 0;
            for (int t = 0; t < length; t++) {
                for (int g = 0; g < GRIEFS; g++) {
                    if (before[t][g] != NONE) {
                        spread(t, g);
                    }
                }
            }
        }

        private void spread(int t, int g) {
            for (int c = 0; c < CHOICES; c++) {
                int to = kind.left(c, g);
                int gain = c == DRIVE ? kind.runs(seasonOf(firstDay + t), g) : 0;
                before[t + 1][to] = Math.max(before[t + 1][to], before[t][g] + gain);
            }
        }

        private void reckonAfter() {
            for (int t = length; t >= 0; t--) {
                for (int g = 0; g < GRIEFS; g++) {
                    after[t][g] = 0;
                    boolean goesOn = t < length && before[t][g] != NONE;
                    for (int c = 0; c < CHOICES && goesOn; c++) {
                        after[t][g] = Math.max(after[t][g], milesBy(t, g, c));
                    }
                }
            }
        }

        private int milesBy(int t, int g, int c) {
            int gain = c == DRIVE ? kind.runs(seasonOf(firstDay + t), g) : 0;
            return gain + after[t + 1][kind.left(c, g)];
        }

        int mostMiles() {
            return after[0][firstGrief];
        }

        int choiceOf(int k) {
            int g = firstGrief;
            int choice = NONE;
            for (int t = 0; t <= k && t < length; t++) {
                choice = firstBestChoice(t, g);
                g = kind.left(choice, g);
            }
            return choice;
        }

        private int firstBestChoice(int t, int g) {
            for (int c = 0; c < REST; c++) {
                if (milesBy(t, g, c) == after[t][g]) {
                    return c;
                }
            }
            return REST;
        }

        int fewestDaysFor(int miles) {
            for (int t = 1; t <= length; t++) {
                for (int g = 0; g < GRIEFS; g++) {
                    if (before[t][g] >= miles) {
                        return t;
                    }
                }
            }
            return NONE;
        }

        int farthestTurn() {
            int far = 0;
            for (int t = 1; t < length; t++) {
                far = Math.max(far, farthestTurnAt(t));
            }
            return far;
        }

        int firstTurnAt(int far) {
            for (int t = 1; t < length; t++) {
                if (farthestTurnAt(t) == far) {
                    return t;
                }
            }
            return NONE;
        }

        private int farthestTurnAt(int t) {
            int far = 0;
            for (int g = 0; g < GRIEFS; g++) {
                if (before[t][g] != NONE) {
                    far = Math.max(far, Math.min(before[t][g], after[t][g]));
                }
            }
            return far;
        }
    }

    /** The drivers in pairs, by trying all ways in their order. */
    private static final class Pairs {
        final int[] best = new int[DRIVERS];
        int bestWorth;
        private final int[] partner = new int[DRIVERS];

        void reckon(Rank rank) {
            bestWorth = NONE;
            for (int i = 0; i < DRIVERS; i++) {
                partner[i] = NONE;
            }
            tryFrom(this, rank, 0, 0);
        }

        private static void tryFrom(Pairs way, Rank rank, int i, int worth) {
            if (i >= rank.size || i >= DRIVERS) {
                way.keepIfBetter(worth);
                return;
            }
            if (way.partner[i] != NONE) {
                tryFrom(way, rank, i + 1, worth);
                return;
            }
            for (int other = i + 1; other < rank.size && other < DRIVERS; other++) {
                if (way.partner[other] == NONE) {
                    way.partner[i] = other;
                    way.partner[other] = i;
                    tryFrom(way, rank, i + 1, worth + pairWorth(rank, i, other));
                    way.partner[i] = NONE;
                    way.partner[other] = NONE;
                }
            }
            tryFrom(way, rank, i + 1, worth);
        }

        private void keepIfBetter(int worth) {
            // Only what is more, so that the first of like ways stays.
            if (worth > bestWorth) {
                bestWorth = worth;
                System.arraycopy(partner, 0, best, 0, DRIVERS);
            }
        }

        private static int pairWorth(Rank rank, int a, int b) {
            int lesser = Math.min(rank.grief[a], rank.grief[b]);
            return rank.kind[a] == rank.kind[b] ? lesser : lesser + 1;
        }
    }
}
