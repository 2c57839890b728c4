/** Promises 27 to 32: part, image, from, status, count, digest. */
public final class WhatThereIsTest {
    private static final Check C = new Check();

    public static void main(String[] args) {
        constants();
        part();
        imageAndFrom();
        imagesKeepWhatMayBeUndone();
        status();
        count();
        digest();
        C.end();
    }

    private static void constants() {
        C.due("NONE", GriefEngine.NONE, -1);
        C.due("BAD", GriefEngine.BAD, -2);
        C.due("NO", GriefEngine.NO, -3);
        C.due("FULL", GriefEngine.FULL, -4);
    }

    private static void part() {
        GriefEngine e = new GriefEngine();
        C.only("part(0) at first", e, x -> x.part(0), 0);
        C.only("part(1) at first", e, x -> x.part(1), 1);
        e.driver(0, 5);
        e.starts(0, 1, 7);
        C.only("part(0)", e, x -> x.part(0), 3);
        C.only("part(1)", e, x -> x.part(1), 2);
        C.refused("part(2)", e, x -> x.part(2), -2, 0);
        C.refused("part(-1)", e, x -> x.part(-1), -2, 0);
    }

    private static void imageAndFrom() {
        GriefEngine e = Check.typed(new GriefEngine(), "abc");
        e.driver(0, 50);
        e.days(3, 0);
        e.note(0, 1, 2, 3, 1, 5);
        e.gone(0, 6, 7);
        long then = e.digest();
        C.only("image(0)", e, x -> x.image(0), 1);
        C.refused("image(2)", e, x -> x.image(2), -2, 0);
        C.refused("image(-1)", e, x -> x.image(-1), -2, 0);
        C.refused("from(1), none kept", e, x -> x.from(1), -3, 1);
        C.refused("from(2)", e, x -> x.from(2), -2, 0);
        C.refused("from(-1)", e, x -> x.from(-1), -2, 0);
        e.driver(5, 9);
        e.days(9, 1);
        e.note(1, 1, 1, 1, 1, 1);
        e.forget(1);
        C.due("image(1)", e.image(1), 1);
        long later = e.digest();
        C.due("from(0)", e.from(0), 1);
        C.due("digest as then", e.digest(), then);
        e.days(5, 0);
        e.forget(0);
        C.due("from(0), once more", e.from(0), 1);
        C.due("digest as then, once more", e.digest(), then);
        C.due("from(1)", e.from(1), 1);
        C.due("digest as later", e.digest(), later);
        e.rank();
        C.due("image(0) of none", e.image(0), 1);
        e.driver(3, 3);
        C.due("from(0) of none", e.from(0), 1);
        C.due("no drivers then", e.count(0), 0);
        e.from(1);
        e.starts(0, 1, 5);
        long above = e.part(0);
        e.type('d');
        e.from(0);
        C.due("the fraction is of no image", e.part(0), above);
        C.due("the text is of no image", e.count(7), 4);
        C.due("status is of no image", e.status(0), 4);
    }

    private static void imagesKeepWhatMayBeUndone() {
        GriefEngine e = new GriefEngine();
        e.driver(0, 50);
        e.days(3, 0);
        e.days(4, 1);
        e.image(0);
        e.undo();
        e.undo();
        e.days(1, 0);
        C.due("from(0)", e.from(0), 1);
        C.due("count(6)", e.count(6), 2);
        C.due("undo()", e.undo(), 3);
        C.due("grief then", e.of(0, 1), 35);
        C.due("undo()", e.undo(), 0);
        C.due("grief at first", e.of(0, 1), 50);
        C.due("undo() of none", e.undo(), -3);
        C.due("from(0)", e.from(0), 1);
        C.due("undo() once more", e.undo(), 3);
    }

    private static void status() {
        GriefEngine e = new GriefEngine();
        e.of(0, 0);
        e.most(0, 1, 0);
        e.tell(0);
        e.part(2);
        e.count(8);
        C.due("status(0)", e.status(0), 5);
        C.refused("status(3)", e, x -> x.status(3), -1, 0);
        C.refused("status(-1)", e, x -> x.status(-1), -1, 0);
        C.due("status(0)", e.status(0), 7);
        e.undo();
        e.from(0);
        C.due("status(1)", e.status(1), 2);
        for (int k = 0; k < 8; k++) {
            e.driver(0, 10);
        }
        C.due("status(2)", e.status(2), 2);
        e.most(0, 1, 1);
        e.over(0);
        e.soonest(0, 999);
        e.tell(0);
        e.read();
        C.due("no refusals: status(0)", e.status(0), 7);
        C.due("no refusals: status(1)", e.status(1), 2);
        C.due("no refusals: status(2)", e.status(2), 2);
        e.rank();
        C.due("rank leaves it", e.status(0), 7);
    }

    private static void count() {
        GriefEngine e = Check.typed(new GriefEngine(), "abcdefghi");
        e.driver(0, 50);
        e.driver(1, 40);
        e.driver(2, 30);
        e.days(1, 0);
        e.days(1, 0);
        for (int k = 0; k < 4; k++) {
            e.note(0, 1, 1, 1, 1, 1);
        }
        e.gone(0, 1, 1);
        // 50, 44, 39; 40, 36, 33; 30, 26, 23
        int[] due = {3, 2, 95, 50 + 44 + 40 + 36 + 10 + 8, 4, 1, 2, 9};
        for (int what = 0; what < 8; what++) {
            int w = what;
            C.only("count(" + w + ")", e, x -> x.count(w), due[w]);
        }
        C.refused("count(8)", e, x -> x.count(8), -2, 0);
        C.refused("count(-1)", e, x -> x.count(-1), -2, 0);
    }

    private static void digest() {
        GriefEngine e = new GriefEngine();
        C.only("digest() at first", e, x -> x.digest(), of(0, 0, 0, 0, 0, 0, 0, 0, 0, 1));
        e.type('x');
        e.driver(1, 20);
        e.driver(2, 30);
        e.days(1, 0);
        e.note(1, 2, 3, 4, 0, 5);
        e.note(0, 6, 1, 7, 2, 8);
        e.gone(1, 9, 10);
        e.starts(0, 1, 5);
        C.only("digest()", e, x -> x.digest(), of(2, 1, 44, 30, 2, 1, 1, 1, 1, 18, 20, 2, 26, 10,
            1, 2, 3, 4, 0, 5, 0, 6, 1, 7, 2, 8, 1, 9, 10, 9, 1));
    }

    private static long of(long... row) {
        long h = 1433;
        for (long v : row) {
            h = 31 * h + v;
        }
        return h;
    }
}
