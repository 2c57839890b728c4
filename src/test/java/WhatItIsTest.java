/** Promises 18 to 26: note, gone, forget, is, look, had, fares, starts, years. */
public final class WhatItIsTest {
    private static final Check C = new Check();

    public static void main(String[] args) {
        note();
        gone();
        forget();
        is();
        look();
        had();
        fares();
        starts();
        years();
        C.end();
    }

    private static GriefEngine one(int kind, int grief) {
        GriefEngine e = new GriefEngine();
        e.driver(kind, grief);
        return e;
    }

    private static void note() {
        GriefEngine e = new GriefEngine();
        C.refused("note of none", e, x -> x.note(0, 0, 0, 0, 0, 0), -2, 0);
        e.driver(0, 50);
        C.refused("note: i 1", e, x -> x.note(1, 0, 0, 0, 0, 0), -2, 0);
        C.refused("note: i -1", e, x -> x.note(-1, 0, 0, 0, 0, 0), -2, 0);
        C.refused("note: g 100", e, x -> x.note(0, 100, 0, 0, 0, 0), -2, 0);
        C.refused("note: g -1", e, x -> x.note(0, -1, 0, 0, 0, 0), -2, 0);
        C.refused("note: s 4", e, x -> x.note(0, 0, 4, 0, 0, 0), -2, 0);
        C.refused("note: s -1", e, x -> x.note(0, 0, -1, 0, 0, 0), -2, 0);
        C.refused("note: x 201", e, x -> x.note(0, 0, 0, 201, 0, 0), -2, 0);
        C.refused("note: x -1", e, x -> x.note(0, 0, 0, -1, 0, 0), -2, 0);
        C.refused("note: c 3", e, x -> x.note(0, 0, 0, 0, 3, 0), -2, 0);
        C.refused("note: c -1", e, x -> x.note(0, 0, 0, 0, -1, 0), -2, 0);
        C.refused("note: y 100", e, x -> x.note(0, 0, 0, 0, 0, 100), -2, 0);
        C.refused("note: y -1", e, x -> x.note(0, 0, 0, 0, 0, -1), -2, 0);
        C.due("note, at its most", e.note(0, 99, 3, 200, 2, 99), 1);
        for (int k = 2; k <= 6; k++) {
            C.due("note " + k, e.note(0, 0, 0, 0, 0, 0), k);
        }
        C.due("count(4)", e.count(4), 6);
        C.refused("note, a 7th", e, x -> x.note(0, 0, 0, 0, 0, 0), -4, 2);
        C.refused("note, a 7th, bad ahead of full", e, x -> x.note(0, 0, 0, 0, 0, 100), -2, 0);
    }

    private static void gone() {
        GriefEngine e = new GriefEngine();
        C.refused("gone of none", e, x -> x.gone(0, 1, 0), -2, 0);
        e.driver(0, 50);
        C.refused("gone: i 1", e, x -> x.gone(1, 1, 0), -2, 0);
        C.refused("gone: i -1", e, x -> x.gone(-1, 1, 0), -2, 0);
        C.refused("gone: n 0", e, x -> x.gone(0, 0, 0), -2, 0);
        C.refused("gone: n 31", e, x -> x.gone(0, 31, 0), -2, 0);
        C.refused("gone: x -1", e, x -> x.gone(0, 1, -1), -2, 0);
        C.refused("gone: x 6001", e, x -> x.gone(0, 1, 6001), -2, 0);
        C.due("gone, at its most", e.gone(0, 30, 6000), 1);
        for (int k = 2; k <= 4; k++) {
            C.due("gone " + k, e.gone(0, 1, 0), k);
        }
        C.due("count(5)", e.count(5), 4);
        C.refused("gone, a 5th", e, x -> x.gone(0, 1, 0), -4, 2);
        C.refused("gone, a 5th, bad ahead of full", e, x -> x.gone(0, 0, 0), -2, 0);
    }

    private static void forget() {
        GriefEngine e = one(0, 50);
        e.note(0, 10, 0, 10, 0, 8);
        e.note(0, 10, 0, 10, 0, 8);
        e.gone(0, 1, 10);
        C.refused("forget(2)", e, x -> x.forget(2), -2, 0);
        C.refused("forget(-1)", e, x -> x.forget(-1), -2, 0);
        C.due("forget(0)", e.forget(0), 2);
        C.due("notes behind it", e.count(4), 0);
        C.due("gone behind it", e.count(5), 1);
        C.due("forget(0) again", e.forget(0), 0);
        C.due("is(0) behind it", e.is(0), 63);
        C.due("note behind it", e.note(0, 1, 1, 1, 1, 1), 1);
        C.due("forget(1)", e.forget(1), 1);
        C.due("notes behind it", e.count(4), 1);
        C.due("gone behind it", e.count(5), 0);
        C.due("had behind it", e.had(0, 0), 100);
    }

    private static void is() {
        GriefEngine e = one(0, 50);
        e.driver(1, 50);
        C.only("is(0) without notes", e, x -> x.is(0), 63);
        // 20 in winter: 20 miles, but a sham's 6; behind driving 17, but a keeper's and a teller's 18.
        e.note(0, 20, 0, 20, 0, 18);
        C.only("is(0): keeper, teller", e, x -> x.is(0), 2 + 16);
        C.only("is(1) has none of it", e, x -> x.is(1), 63);
        e.note(0, 20, 2, 40, 2, 17);
        C.only("is(0): teller", e, x -> x.is(0), 16);
        e.note(1, 20, 1, 0, 2, 20);
        C.only("is(1): old", e, x -> x.is(1), 32);
        e.note(1, 20, 1, 0, 2, 19);
        C.only("is(1): none", e, x -> x.is(1), 0);
        GriefEngine f = one(0, 50);
        f.note(0, 99, 1, 66, 1, 51);
        C.only("is(0): a sham told, by what was not cut off", f, x -> x.is(0), 4);
        GriefEngine g = one(0, 50);
        g.note(0, 0, 0, 0, 2, 0);
        C.only("is(0): all have nothing left", g, x -> x.is(0), 63);
        C.refused("is(1)", g, x -> x.is(1), -2, 0);
        C.refused("is(-1)", g, x -> x.is(-1), -2, 0);
    }

    private static void look() {
        // At 50 in winter, by driving: plain and spring alike, keeper and teller alike, sham and
        // old by themselves; no morning parts them all.
        C.only("look(0) of all", one(0, 50), x -> x.look(0), 0);
        // At 4 in winter, by driving, plain, spring and old are alike; in spring only two are.
        C.only("look(0) of all at 4", one(0, 4), x -> x.look(0), 10);
        GriefEngine e = one(0, 50);
        e.note(0, 20, 0, 20, 0, 18);
        C.only("look(0): keeper or teller, by telling", e, x -> x.look(0), 1);
        e.days(10, 0);
        C.only("look(0): by grief as it is", e, x -> x.look(0), 1);
        GriefEngine f = one(0, 99);
        f.note(0, 20, 0, 20, 0, 18);
        C.only("look(0): at 99 telling is alike, resting not", f, x -> x.look(0), 2);
        GriefEngine s = one(0, 50);
        s.note(0, 20, 0, 20, 0, 17);
        // Plain, spring and old ones are left: winter and driving, two alike; in spring by resting
        // all three are unlike.
        C.only("look(0): plain, spring or old: is", s, x -> x.is(0), 1 + 8 + 32);
        C.only("look(0): plain, spring or old", s, x -> x.look(0), 12);
        s.note(0, 20, 2, 40, 0, 17);
        C.only("look(0): plain or spring", s, x -> x.look(0), 10);
        s.note(0, 20, 1, 40, 0, 17);
        C.only("look(0): plain alone", s, x -> x.look(0), 0);
        s.note(0, 20, 1, 39, 0, 17);
        C.only("look(0): no kind", s, x -> x.look(0), -1);
        C.refused("look(1)", s, x -> x.look(1), -2, 0);
        C.refused("look(-1)", s, x -> x.look(-1), -2, 0);
    }

    private static void had() {
        GriefEngine e = one(0, 50);
        e.driver(5, 50);
        C.only("had(0, 0) of all", e, x -> x.had(0, 0), 100);
        C.only("had(0, 1) of all", e, x -> x.had(0, 1), 0);
        e.gone(1, 1, 30);
        C.only("had(1, 0): an old one at its most", e, x -> x.had(1, 0), 70);
        C.only("had(1, 1)", e, x -> x.had(1, 1), 30);
        C.only("had(0, 0) has none of it", e, x -> x.had(0, 0), 100);
        // 33 leaves 29, 34 leaves 30
        e.gone(1, 2, 59);
        C.only("had(1, 0) by both", e, x -> x.had(1, 0), 1);
        C.only("had(1, 1) by both", e, x -> x.had(1, 1), 33);
        e.gone(1, 3, 0);
        C.only("had(1, 0): none", e, x -> x.had(1, 0), 0);
        C.only("had(1, 1): none", e, x -> x.had(1, 1), -1);
        GriefEngine f = one(1, 50);
        // A keeper of 9 has 9 still: 20 days of winter, 10 of spring, from day 0 on, not today's.
        f.days(70, 2);
        f.gone(0, 30, 20 * 9 + 10 * 18);
        C.only("had over winter's end", f, x -> x.had(0, 1), 9);
        GriefEngine g = one(0, 50);
        g.gone(0, 1, 6000);
        C.only("had: too many miles", g, x -> x.had(0, 0), 0);
        g.forget(1);
        g.gone(0, 30, 0);
        C.only("had: none gone", g, x -> x.had(0, 0), 1);
        C.refused("had(0, 2)", g, x -> x.had(0, 2), -2, 0);
        C.refused("had(0, -1)", g, x -> x.had(0, -1), -2, 0);
        C.refused("had(1, 0)", g, x -> x.had(1, 0), -2, 0);
        C.refused("had(-1, 0)", g, x -> x.had(-1, 0), -2, 0);
    }

    private static void fares() {
        GriefEngine e = one(0, 50);
        e.driver(0, 50);
        C.only("fares: both drive", e, x -> x.fares(0, 1), 1);
        C.refused("fares(0, 0)", e, x -> x.fares(0, 0), -2, 0);
        C.refused("fares(0, 2)", e, x -> x.fares(0, 2), -2, 0);
        C.refused("fares(2, 0)", e, x -> x.fares(2, 0), -2, 0);
        C.refused("fares(-1, 0)", e, x -> x.fares(-1, 0), -2, 0);
        C.refused("fares(0, -1)", e, x -> x.fares(0, -1), -2, 0);
        // A sham of 19: 6 miles, 3 if both drive; resting spares 18 less 17. A sham of 3: 1 mile,
        // none if both drive; resting spares 2 less 2: both is as good as one.
        GriefEngine s = one(2, 3);
        s.driver(2, 3);
        C.only("fares of shams of 3", s, x -> x.fares(0, 1), 1 + 2 + 4);
        // In spring a spring one of 50 doesn't run; resting spares 49 less 44: both rest, or a
        // plain one drives.
        GriefEngine t = new GriefEngine();
        t.days(20, 2);
        t.driver(3, 50);
        t.driver(3, 50);
        t.driver(0, 50);
        C.only("fares of spring ones", t, x -> x.fares(0, 1), 8);
        C.only("fares of one of them", t, x -> x.fares(0, 2), 2);
        C.only("fares the other way", t, x -> x.fares(2, 0), 4);
        // A teller of 1 runs 1, none if both drive; resting has 0 where driving has 1: drive.
        GriefEngine u = one(4, 1);
        u.driver(4, 1);
        C.only("fares of tellers of 1", u, x -> x.fares(0, 1), 1);
        // A sham of 10: 3 miles, 1 if both drive; resting spares 9 less 8: like the half.
        GriefEngine v = one(2, 10);
        v.driver(2, 10);
        C.only("fares of shams of 10", v, x -> x.fares(0, 1), 1 + 2 + 4);
        // A spring one of 0 has nothing to lose at all.
        GriefEngine w = one(3, 0);
        w.driver(3, 0);
        C.only("fares of nothing", w, x -> x.fares(0, 1), 15);
    }

    private static void fraction(GriefEngine e, int n, int c, long above, long below) {
        C.due("starts(0, " + n + ", " + c + ")", e.starts(0, n, c), 1);
        C.due("then part(0)", e.part(0), above);
        C.due("then part(1)", e.part(1), below);
    }

    private static void starts() {
        GriefEngine e = one(0, 20);
        fraction(e, 0, 5, 0, 1);
        fraction(e, 1, 0, 20, 1);
        fraction(e, 1, 10, 0, 1);
        fraction(e, 1, 3, 14, 1);
        fraction(e, 2, 0, 37, 1);
        // .7 of (20 and .7 of 17), and .3 of .7 of 19: 26.32
        fraction(e, 2, 3, 658, 25);
        e.days(1, 0);
        fraction(e, 1, 5, 17, 2);
        fraction(e, 6, 10, 0, 1);
        C.due("nothing else is changed: miles", e.of(0, 2), 20);
        C.due("nothing else is changed: the day", e.count(1), 1);
        GriefEngine f = new GriefEngine();
        f.days(19, 2);
        f.driver(0, 10);
        fraction(f, 2, 0, 10 + 16, 1);
        C.refused("starts(0, 7, 0)", e, x -> x.starts(0, 7, 0), -2, 0);
        C.refused("starts(0, -1, 0)", e, x -> x.starts(0, -1, 0), -2, 0);
        C.refused("starts(0, 1, 11)", e, x -> x.starts(0, 1, 11), -2, 0);
        C.refused("starts(0, 1, -1)", e, x -> x.starts(0, 1, -1), -2, 0);
        C.refused("starts(1, 1, 1)", e, x -> x.starts(1, 1, 1), -2, 0);
        C.refused("starts(-1, 1, 1)", e, x -> x.starts(-1, 1, 1), -2, 0);
    }

    /** What each does on each day by a seed, by the document's words. */
    private static int milesByHand(GriefEngine e, int seed, int n) {
        int many = e.count(0);
        long x = seed;
        int sum = 0;
        int[] grief = new int[many];
        for (int i = 0; i < many; i++) {
            grief[i] = e.of(i, 1);
        }
        for (int d = 0; d < n; d++) {
            for (int i = 0; i < many; i++) {
                x = (x * 1103515245L + 12345L) % (1L << 31);
                int c = (int) ((x >> 16) % 3);
                int s = (e.count(1) + d) / 20 % 4;
                sum += c == 0 ? Model.runs(e.of(i, 0), s, grief[i]) : 0;
                grief[i] = Model.left(e.of(i, 0), c, grief[i]);
            }
        }
        return sum;
    }

    private static void years() {
        GriefEngine e = new GriefEngine();
        C.only("years of none", e, x -> x.years(0, 60), 0);
        e.driver(0, 80);
        e.driver(4, 70);
        e.driver(5, 60);
        e.days(15, 1);
        for (int seed : new int[] {0, 1, 2, 7, 12345, 999999}) {
            for (int n : new int[] {0, 1, 2, 9, 60}) {
                C.only("years(" + seed + ", " + n + ")", e, x -> x.years(seed, n), milesByHand(e, seed, n));
            }
        }
        // 5: X is 5517588570, less two times 2147483648 left over 1222621274; by 65536 18655; by 3 1.
        GriefEngine f = one(0, 80);
        C.only("years(5, 1)", f, x -> x.years(5, 1), 0);
        // 0: X is 12345; by 65536 0: drives.
        C.only("years(0, 1)", f, x -> x.years(0, 1), 80);
        C.refused("years(-1, 0)", e, x -> x.years(-1, 0), -2, 0);
        C.refused("years(1000000, 0)", e, x -> x.years(1000000, 0), -2, 0);
        C.refused("years(0, -1)", e, x -> x.years(0, -1), -2, 0);
        C.refused("years(0, 61)", e, x -> x.years(0, 61), -2, 0);
    }
}
