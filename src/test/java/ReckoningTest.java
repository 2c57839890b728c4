import java.math.BigInteger;

/** What is reckoned, at the least and the most that it can be asked for, and where it turns. */
public final class ReckoningTest {
    private static final Check C = new Check();

    public static void main(String[] args) {
        then();
        over();
        most();
        mostByResting();
        soonest();
        soonestOfTheLeastThatRuns();
        home();
        tell();
        is();
        look();
        lookOfOneKindAlone();
        had();
        fares();
        faresOfHalf();
        starts();
        startsOverWintersEnd();
        years();
        yearsWrapAround();
        digestWrapsAround();
        images();
        C.end();
    }

    private static GriefEngine one(int kind, int grief) {
        return Ranks.oneOn(0, kind, grief);
    }

    private static void then() {
        GriefEngine e = one(5, 99);
        C.due("then(0, 0, 0, 0)", e.then(0, 0, 0, 0), 99);
        C.due("then(0, 0, 0, 1)", e.then(0, 0, 0, 1), 0);
        C.due("then(0, 1, 0, 0)", e.then(0, 1, 0, 0), 89);
        C.due("then(0, 1, 0, 1)", e.then(0, 1, 0, 1), 30);
        C.due("then(0, 99, 0, 0)", e.then(0, 99, 0, 0), 0);
        C.due("then(0, 99, 2, 0)", e.then(0, 99, 2, 0), 99);
        C.due("then(0, 99, 1, 0)", e.then(0, 99, 1, 0), 99);
        C.due("then(0, 99, 1, 1)", e.then(0, 99, 1, 1), 0);
        C.due("then(0, 24, 1, 0) of 0", one(0, 0).then(0, 24, 1, 0), 96);
        C.due("then(0, 25, 1, 0) of 0", one(0, 0).then(0, 25, 1, 0), 99);
        C.due("then(0, 98, 2, 0) of 99", one(0, 99).then(0, 98, 2, 0), 1);
        C.due("then(0, 99, 2, 0) of 99", one(0, 99).then(0, 99, 2, 0), 0);
        // A keeper of 9 keeps it: 20 days of 9, 60 of 18, and 19 of 9 again.
        C.due("then(0, 98, 0, 1) of a keeper", one(1, 9).then(0, 98, 0, 1), 20 * 9 + 60 * 18 + 18 * 9);
        C.due("then(0, 99, 0, 1) of a keeper", one(1, 9).then(0, 99, 0, 1), 20 * 9 + 60 * 18 + 19 * 9);
    }

    private static void over() {
        C.due("over of 0", one(0, 0).over(0), 0);
        C.due("over of 1", one(0, 1).over(0), 1);
        C.due("over of 2", one(0, 2).over(0), 2);
        C.due("over of 9", one(0, 9).over(0), 9);
        C.due("over of 10", one(0, 10).over(0), 9);
        C.due("over of 99", one(0, 99).over(0), 27);
        C.due("over of 99, behind all but one", one(0, 99).then(0, 26, 0, 0), 1);
        for (int kind : new int[] {0, 2, 3, 5}) {
            C.due("over of kind " + kind, one(kind, 99).over(0), 27);
        }
        for (int kind : new int[] {1, 4}) {
            C.due("over of kind " + kind + " of 0", one(kind, 0).over(0), 0);
            C.due("over of kind " + kind + " of 1", one(kind, 1).over(0), -1);
            C.due("over of kind " + kind + " of 99", one(kind, 99).over(0), -1);
        }
    }

    private static void most() {
        GriefEngine e = one(0, 99);
        C.due("most(0, 1, -1)", e.most(0, 1, -1), 99);
        C.due("most(0, 1, 0)", e.most(0, 1, 0), 0);
        C.due("most(0, 1, 1)", e.most(0, 1, 1), -5);
        // It drives on all seven: 99, 89, 80, 71, 63, 56, 50.
        C.due("most(0, 7, -1)", e.most(0, 7, -1), 508);
        C.due("most(0, 7, 6)", e.most(0, 7, 6), 0);
        C.due("most(0, 7, 7)", e.most(0, 7, 7), -5);
        // Of 0: told, told, .. and driven at last; the first of like rows.
        GriefEngine f = one(0, 0);
        C.due("of 0: most(0, 1, -1)", f.most(0, 1, -1), 0);
        C.due("of 0: most(0, 1, 0), all like, the first", f.most(0, 1, 0), 0);
        C.due("of 0: most(0, 2, -1)", f.most(0, 2, -1), 4);
        C.due("of 0: most(0, 2, 0)", f.most(0, 2, 0), 1);
        C.due("of 0: most(0, 2, 1)", f.most(0, 2, 1), 0);
        C.due("miles gone don't count", droveOnce().most(0, 1, -1), 89);
    }

    /**
     * A sham of 10 on the last day of winter: at rest 9, then 6, 5, 4, 4, 3 in spring; driven at
     * once 3, 5, 4, 4, 3, 2: only a row that rests first goes 22.
     */
    private static void mostByResting() {
        GriefEngine e = Ranks.oneOn(19, 2, 10);
        int[] due = {2, 0, 0, 0, 0, 0};
        C.due("by resting: most(0, 6, -1)", e.most(0, 6, -1), 22);
        for (int k = 0; k < 6; k++) {
            C.due("by resting: most(0, 6, " + k + ")", e.most(0, 6, k), due[k]);
        }
        C.due("by resting: most(0, 6, 6)", e.most(0, 6, 6), -5);
        C.due("by resting: soonest(0, 22)", e.soonest(0, 22), 6);
        C.due("by resting: soonest(0, 23)", e.soonest(0, 23), 7);
        // Of five days both ways go 19: the first of them is due.
        C.due("in five: most(0, 5, -1)", e.most(0, 5, -1), 19);
        C.due("in five: most(0, 5, 0)", e.most(0, 5, 0), 0);
    }

    private static GriefEngine droveOnce() {
        GriefEngine e = one(0, 99);
        e.days(1, 0);
        return e;
    }

    /** A plain one of 98 in spring: 196, 176, 156, 140, 124, 110, 98: 1000 by all; told first: more. */
    private static void soonest() {
        GriefEngine e = Ranks.oneOn(20, 0, 98);
        C.due("soonest(0, 1)", e.soonest(0, 1), 1);
        C.due("soonest(0, 196)", e.soonest(0, 196), 1);
        C.due("soonest(0, 197)", e.soonest(0, 197), 2);
        int most = e.most(0, 7, -1);
        C.due("most in seven", most, 1010);
        C.due("soonest(0, 998)", e.soonest(0, 998), 7);
        C.due("soonest(0, 999)", e.soonest(0, 999), 7);
        GriefEngine f = Ranks.oneOn(20, 0, 97);
        C.due("of 97: most in seven", f.most(0, 7, -1), 996);
        C.due("of 97: soonest(0, 996)", f.soonest(0, 996), 7);
        C.due("of 97: soonest(0, 997): none", f.soonest(0, 997), -1);
        C.due("of 97: soonest(0, 999): none", f.soonest(0, 999), -1);
        for (int n = 1; n <= 7; n++) {
            C.due("soonest for the most in " + n, f.soonest(0, f.most(0, n, -1)), n);
        }
        for (int n = 1; n < 7; n++) {
            C.due("soonest for 1 more than in " + n, f.soonest(0, f.most(0, n, -1) + 1), n + 1);
        }
    }

    /** It has no GRIEF left behind that DAY, but the miles are gone. */
    private static void soonestOfTheLeastThatRuns() {
        C.due("of 1: soonest(0, 1)", one(0, 1).soonest(0, 1), 1);
        C.due("of 0: soonest(0, 1)", one(0, 0).soonest(0, 1), 2);
        C.due("of 1, in spring: soonest(0, 2)", Ranks.oneOn(20, 0, 1).soonest(0, 2), 1);
        C.due("of 1, in spring: soonest(0, 3)", Ranks.oneOn(20, 0, 1).soonest(0, 3), 2);
        // A sham of 1 runs nothing at all: told once it has 2, in spring 1 mile.
        C.due("a sham of 1: soonest(0, 1)", Ranks.oneOn(20, 2, 1).soonest(0, 1), 2);
    }

    private static void home(GriefEngine e, int n, int far, int turn) {
        C.due("home(0, " + n + ", 0)", e.home(0, n, 0), far);
        C.due("home(0, " + n + ", 1)", e.home(0, n, 1), turn);
    }

    private static void home() {
        home(one(0, 0), 2, 0, 1);
        home(one(0, 20), 2, 17, 1);
        // Of 30: out 30, then back 26 and 23; or out on two days and back 23: the first is more.
        home(one(0, 30), 3, 30, 1);
        home(one(0, 0), 3, 3, 2);
        // All but the last day lie in winter, the last in spring: it turns behind six.
        home(Ranks.oneOn(14, 0, 0), 7, 24, 6);
        // Three days of winter, then it won't: it turns behind the first.
        home(Ranks.oneOn(17, 3, 30), 7, 30, 1);
        home(Ranks.oneOn(20, 3, 99), 7, 0, 1);
    }

    private static void tell() {
        GriefEngine e = new GriefEngine();
        int[] griefs = {0, 99, 0, 99, 0, 99};
        for (int k = 0; k < 6; k++) {
            e.driver(0, griefs[k]);
            C.due("of " + (k + 1) + " like kinds: tell(-1)", e.tell(-1), k < 3 ? 0 : 99);
            C.due("of " + (k + 1) + ": tell(" + (k + 1) + ")", e.tell(k + 1), -10);
        }
        // Two of 99 must be a pair: 0 can take 1 still, then 2 can't take 3, but 4.
        int[] due = {1, 0, 4, 5, 2, 3};
        for (int k = 0; k < 6; k++) {
            C.due("tell(" + k + ") of six", e.tell(k), due[k]);
        }
        // Unlike kinds of 0 are worth 1.
        GriefEngine f = one(0, 0);
        f.driver(1, 0);
        C.due("unlike ones of 0", f.tell(-1), 1);
        GriefEngine g = one(2, 99);
        g.driver(3, 99);
        C.due("unlike ones of 99", g.tell(-1), 100);
    }

    private static int isBy(int g, int s, int x, int c, int y) {
        GriefEngine e = one(0, 50);
        C.due("note", e.note(0, g, s, x, c, y), 1);
        return e.is(0);
    }

    private static void is() {
        C.due("of 0, nothing ran, nothing left", isBy(0, 0, 0, 0, 0), 63);
        C.due("of 0, in spring, at rest", isBy(0, 1, 0, 2, 0), 63);
        C.due("of 0, told, 4 left", isBy(0, 0, 0, 1, 4), 1 + 2 + 8 + 32);
        C.due("of 0, told, 2 left", isBy(0, 0, 0, 1, 2), 4);
        C.due("of 0, told, 8 left", isBy(0, 0, 0, 1, 8), 16);
        C.due("of 99, in summer, 198, told, 99 left", isBy(99, 2, 198, 1, 99), 1 + 2 + 8 + 16);
        C.due("of 99, in summer, 199", isBy(99, 2, 199, 1, 99), 0);
        C.due("of 99, in summer, 200", isBy(99, 2, 200, 1, 99), 0);
        C.due("of 99, in autumn, 30, at rest 99", isBy(99, 3, 30, 2, 99), 32);
        C.due("of 99, in spring, 0, at rest 98", isBy(99, 1, 0, 2, 98), 8);
    }

    /** By GRIEF 0 all run alike; telling parts shams and tellers: 4 alike, by any season. */
    private static void look() {
        C.due("look of 0", one(0, 0).look(0), 1);
        // By 99, in winter, driving: plain and spring, keeper and teller are alike.
        C.due("look of 99", one(0, 99).look(0), 0);
        GriefEngine e = one(0, 0);
        e.note(0, 20, 0, 20, 0, 18);
        C.due("look of 0, keeper or teller", e.look(0), 1);
        e.note(0, 20, 0, 20, 2, 17);
        C.due("look of 0, teller", e.look(0), 0);
        GriefEngine f = one(0, 0);
        f.note(0, 20, 0, 20, 0, 17);
        f.note(0, 20, 2, 40, 0, 17);
        C.due("plain or spring, of 0", f.is(0), 1 + 8);
        C.due("look of 0, plain or spring: all like, the least", f.look(0), 0);
    }

    /** Of one KIND alone all mornings are like: the least. */
    private static void lookOfOneKindAlone() {
        int[][] notes = {{20, 1, 40, 0, 17}, {20, 0, 20, 0, 18}, {20, 0, 6, 0, 17}, {20, 1, 0, 2, 19},
            {20, 0, 20, 2, 17}, {20, 0, 20, 2, 20}};
        for (int kind = 0; kind < 6; kind++) {
            for (int grief : new int[] {0, 1, 4, 20, 99}) {
                GriefEngine e = one(0, grief);
                int[] n = notes[kind];
                e.note(0, n[0], n[1], n[2], n[3], n[4]);
                if (kind == 1) {
                    e.note(0, 20, 0, 20, 2, 19);
                }
                C.due("is(0): kind " + kind + " alone", e.is(0), 1 << kind);
                C.due("look(0) of kind " + kind + " alone, of " + grief, e.look(0), 0);
            }
        }
    }

    private static void had() {
        GriefEngine e = one(0, 50);
        e.gone(0, 1, 0);
        C.due("gone 0 on one day: how many", e.had(0, 0), 1);
        C.due("gone 0 on one day: the least", e.had(0, 1), 0);
        GriefEngine f = one(0, 50);
        f.gone(0, 1, 99);
        C.due("gone 99 on one day: how many", f.had(0, 0), 1);
        C.due("gone 99 on one day: the least", f.had(0, 1), 99);
        GriefEngine g = one(0, 50);
        g.gone(0, 1, 100);
        C.due("gone 100 on one day: how many", g.had(0, 0), 0);
        C.due("gone 100 on one day: none", g.had(0, 1), -1);
        GriefEngine h = one(1, 0);
        h.gone(0, 30, 1151);
        C.due("a keeper gone 1151 in 30: how many", h.had(0, 0), 1);
        C.due("a keeper gone 1151 in 30: the least", h.had(0, 1), 99);
        GriefEngine k = one(5, 0);
        k.gone(0, 1, 30);
        C.due("an old one gone 30: how many", k.had(0, 0), 70);
        C.due("an old one gone 30: the least", k.had(0, 1), 30);
        k.rank();
        k.driver(5, 0);
        k.gone(0, 1, 29);
        C.due("an old one gone 29: how many", k.had(0, 0), 1);
    }

    /** Where neither is better off, both ways stand. */
    private static void fares() {
        GriefEngine e = one(0, 0);
        e.driver(0, 0);
        C.due("of 0 and 0: all", e.fares(0, 1), 15);
        GriefEngine f = one(0, 99);
        f.driver(0, 99);
        C.due("of 99 and 99: both drive", f.fares(0, 1), 1);
        // A plain one of 1 runs 1, none of it if both drive; resting has 0, and so has driving.
        GriefEngine g = one(0, 1);
        g.driver(0, 1);
        C.due("of 1 and 1: not both rest", g.fares(0, 1), 1 + 2 + 4);
        g.driver(0, 0);
        C.due("of 1 and 0: a drives, or b does", g.fares(0, 2), 1 + 2 + 4);
        C.due("of 0 and 1: the other way", g.fares(2, 0), 1 + 2 + 4);
    }

    private static int faresOfTwo(int kind, int grief) {
        GriefEngine e = one(kind, grief);
        e.driver(kind, grief);
        return e.fares(0, 1);
    }

    /** What one gets by half of the miles, cut, against what resting spares. */
    private static void faresOfHalf() {
        // 6 miles, 3 if both drive; resting spares 2.
        C.due("shams of 20", faresOfTwo(2, 20), 1);
        // 3 miles, 1 if both drive; resting spares 1: one of them may rest, not both.
        C.due("shams of 10", faresOfTwo(2, 10), 1 + 2 + 4);
        // 30 miles, 15 if both drive; resting spares 10.
        C.due("old ones of 99", faresOfTwo(5, 99), 1);
        // 2 miles, 1 if both drive; resting spares 1.
        C.due("old ones of 2", faresOfTwo(5, 2), 1 + 2 + 4);
        // 1 mile, none if both drive; resting spares 1: any but both driving.
        C.due("old ones of 1", faresOfTwo(5, 1), 2 + 4 + 8);
        C.due("old ones of 0", faresOfTwo(5, 0), 15);
        // A keeper of 1 keeps it by driving, and has none of it behind resting: less than nothing.
        C.due("keepers of 1", faresOfTwo(1, 1), 1);
        C.due("keepers of 0", faresOfTwo(1, 0), 15);
    }

    private static void fraction(GriefEngine e, int n, int c, long above, long below) {
        C.due("starts(0, " + n + ", " + c + ")", e.starts(0, n, c), 1);
        C.due("part(0)", e.part(0), above);
        C.due("part(1)", e.part(1), below);
    }

    private static void starts() {
        GriefEngine e = one(0, 14);
        fraction(e, 0, 0, 0, 1);
        fraction(e, 0, 10, 0, 1);
        fraction(e, 1, 0, 14, 1);
        fraction(e, 1, 1, 63, 5);
        fraction(e, 1, 9, 7, 5);
        fraction(e, 1, 10, 0, 1);
        // 14, 12, 10, 8, 7, 6
        fraction(e, 6, 0, 57, 1);
        fraction(e, 6, 1, 52334559, 1000000);
        fraction(e, 6, 9, 6753999, 1000000);
        fraction(e, 6, 10, 0, 1);
        // The most of all: a keeper of 99 in spring, 198, 180, 162, 146, 132, 120.
        fraction(Ranks.oneOn(20, 1, 99), 6, 0, 938, 1);
        fraction(one(0, 0), 6, 5, 0, 1);
    }

    /** Of 10: left by driving 8, then 7 either way; by resting 9, then 8 either way. */
    private static void startsOverWintersEnd() {
        GriefEngine e = Ranks.oneOn(19, 0, 10);
        fraction(e, 1, 5, 5, 1);
        // Half of 10; a quarter of 16 and of 18.
        fraction(e, 2, 5, 27, 2);
        // Half of what 7 and 8 run by halves: 14 and 16.
        fraction(e, 3, 5, 21, 1);
        GriefEngine f = Ranks.oneOn(18, 0, 10);
        // Half of 10; a quarter of 8 and of 9, still in winter; 7.5 again.
        fraction(f, 2, 5, 37, 4);
        fraction(f, 3, 5, 67, 4);
        // A spring one goes nowhere from there on.
        fraction(Ranks.oneOn(19, 3, 10), 6, 5, 5, 1);
        fraction(Ranks.oneOn(20, 3, 10), 6, 5, 0, 1);
        // Two days of spring, on which it doesn't run, then one of summer, by 7 or 8.
        fraction(Ranks.oneOn(38, 3, 10), 3, 5, 15, 2);
    }

    private static void years() {
        GriefEngine e = one(0, 80);
        C.due("years(0, 0)", e.years(0, 0), 0);
        C.due("years(999999, 0)", e.years(999999, 0), 0);
        // X is 12345: 0 by 65536: it drives.
        C.due("years(0, 1)", e.years(0, 1), 80);
        C.due("years(999999, 1)", e.years(999999, 1), milesByLongHand(999999, 1, 80));
        C.due("years(0, 60)", e.years(0, 60), milesByLongHand(0, 60, 80));
        C.due("years(999999, 60)", e.years(999999, 60), milesByLongHand(999999, 60, 80));
        C.due("years(999998, 59)", e.years(999998, 59), milesByLongHand(999998, 59, 80));
    }

    /** X never wraps around at a long: 2147483647 times 1103515245 has room in one. */
    private static void yearsWrapAround() {
        for (int seed = 0; seed < 1000000; seed += 12347) {
            C.due("years(" + seed + ", 60)", one(0, 80).years(seed, 60), milesByLongHand(seed, 60, 80));
        }
    }

    private static int milesByLongHand(int seed, int n, int grief) {
        BigInteger x = BigInteger.valueOf(seed);
        int miles = 0;
        int g = grief;
        for (int d = 0; d < n; d++) {
            x = x.multiply(BigInteger.valueOf(1103515245L)).add(BigInteger.valueOf(12345L))
                .mod(BigInteger.valueOf(2147483648L));
            int c = x.shiftRight(16).mod(BigInteger.valueOf(3)).intValue();
            miles += c == 0 ? Model.runs(0, d / 20 % 4, g) : 0;
            g = Model.left(0, c, g);
        }
        return miles;
    }

    /** With all full, h goes far beyond a long; what is left over by 2 to the 64 is due. */
    private static void digestWrapsAround() {
        for (String state : Ranks.NAMES) {
            GriefEngine e = Ranks.named(state).get();
            C.due(state + ": digest()", e.digest(), digestByLongHand(e, notesOf(state), goneOf(state)));
        }
    }

    private static int[] notesOf(String state) {
        return switch (state) {
            case "full" -> new int[] {0, 10, 0, 20, 0, 9, 1, 11, 1, 20, 1, 9, 2, 12, 2, 20, 2, 9,
                3, 13, 3, 20, 0, 9, 4, 14, 0, 20, 1, 9, 5, 15, 1, 20, 2, 9};
            case "some", "on the last day" -> new int[] {0, 20, 0, 20, 0, 18};
            default -> new int[] {};
        };
    }

    private static int[] goneOf(String state) {
        return switch (state) {
            case "full" -> new int[] {0, 1, 50, 1, 2, 51, 2, 3, 52, 3, 4, 53};
            case "some", "on the last day" -> new int[] {2, 2, 59};
            default -> new int[] {};
        };
    }

    private static long digestByLongHand(GriefEngine e, int[] notes, int[] gone) {
        BigInteger h = BigInteger.valueOf(1433);
        for (int what = 0; what < 8; what++) {
            h = behind(h, e.count(what));
        }
        for (int i = 0; i < e.count(0); i++) {
            for (int what = 0; what < 3; what++) {
                h = behind(h, e.of(i, what));
            }
        }
        for (int v : notes) {
            h = behind(h, v);
        }
        for (int v : gone) {
            h = behind(h, v);
        }
        return behind(behind(h, e.part(0)), e.part(1)).longValue();
    }

    private static BigInteger behind(BigInteger h, long v) {
        return h.multiply(BigInteger.valueOf(31)).add(BigInteger.valueOf(v));
    }

    /** Each image is kept by itself, and stays as it was kept, whatever comes. */
    private static void images() {
        GriefEngine e = Ranks.some();
        long then = e.digest();
        C.due("image(0)", e.image(0), 1);
        e.days(9, 0);
        e.note(1, 1, 1, 1, 1, 1);
        e.gone(1, 1, 1);
        C.due("image(1)", e.image(1), 1);
        long later = e.digest();
        e.undo();
        e.undo();
        e.driver(0, 0);
        e.forget(0);
        e.forget(1);
        for (int k = 0; k < 2; k++) {
            C.due("from(0)", e.from(0), 1);
            C.due("as then", e.digest(), then);
            C.due("undo()", e.undo(), 30);
            e.days(99, 1);
            C.due("from(1)", e.from(1), 1);
            C.due("as later", e.digest(), later);
            C.due("undo()", e.undo(), 31);
            e.rank();
        }
    }
}
