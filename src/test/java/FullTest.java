import java.util.function.Supplier;

/** What is full: 6 DRIVERS, 150 bytes, 6 NOTES, 4 GONE, 8 that may be undone; one below, and one more. */
public final class FullTest {
    private static final Check C = new Check();

    public static void main(String[] args) {
        sixDrivers();
        aSeventhDriverTakesNothingThatMayBeUndone();
        bytes();
        notes();
        gone();
        fullIsOfAllDriversTogether();
        fullOnceMoreBehindForgetting();
        eightThatMayBeUndone();
        theSixthOfAFullRank();
        theSixthOfATextThatIsRead();
        anImageOfAllThatIsFull();
        badGoesAheadOfFull();
        C.end();
    }

    private static GriefEngine drivers(int many) {
        GriefEngine e = new GriefEngine();
        for (int k = 0; k < many; k++) {
            e.driver(5 - k % 6, 10 * k);
        }
        return e;
    }

    private static void sixDrivers() {
        C.due("the first driver's number", drivers(0).driver(0, 0), 0);
        C.due("the 5th driver's number", drivers(4).driver(0, 0), 4);
        C.due("the 6th driver's number", drivers(5).driver(0, 0), 5);
        C.refusedApart("a 7th driver", () -> drivers(6), x -> x.driver(0, 0), -4, 2);
        GriefEngine e = drivers(9);
        C.due("drivers of nine that came", e.count(0), 6);
        C.due("three were refused", e.status(2), 3);
        C.due("the last one's grief", e.of(5, 1), 50);
        C.due("rank()", e.rank(), 6);
        C.due("the number then", e.driver(0, 0), 0);
    }

    private static GriefEngine sixThatDrove() {
        GriefEngine e = drivers(6);
        e.days(3, 0);
        e.days(2, 1);
        return e;
    }

    private static void aSeventhDriverTakesNothingThatMayBeUndone() {
        C.refusedApart("a 7th driver, behind days", FullTest::sixThatDrove, x -> x.driver(1, 1), -4, 2);
        GriefEngine e = sixThatDrove();
        e.driver(1, 1);
        C.due("that may be undone still", e.count(6), 2);
        C.due("undo() still", e.undo(), 3);
        // A driver that comes takes it; so does one that comes behind rank().
        GriefEngine f = drivers(5);
        f.days(3, 0);
        C.due("a 6th driver", f.driver(1, 1), 5);
        C.due("nothing may be undone", f.count(6), 0);
        C.due("undo()", f.undo(), -3);
        C.due("the day stays", f.count(1), 3);
    }

    private static GriefEngine text(int bytes) {
        return Check.typed(new GriefEngine(), Ranks.OF_150_BYTES.substring(0, bytes));
    }

    private static void bytes() {
        C.due("the first byte", text(0).type('r'), 1);
        C.due("the 149th byte", text(148).type(' '), 149);
        C.due("the 150th byte", text(149).type(';'), 150);
        C.refusedApart("a 151st byte", () -> text(150), x -> x.type(';'), -4, 2);
        C.refusedApart("a 151st byte, 0", () -> text(150), x -> x.type(0), -4, 2);
        C.due("read() of 149", text(149).read(), -159);
        C.due("read() of 150", text(150).read(), 13);
        GriefEngine e = text(150);
        e.type('x');
        C.due("read() of 150, and one refused", e.read(), 13);
        C.due("clear()", e.clear(), 150);
        C.due("a byte then", e.type('r'), 1);
        GriefEngine f = text(0);
        for (int c = 0; c < 128; c++) {
            C.due("type(" + c + ")", f.type(c), c + 1);
        }
    }

    private static GriefEngine noted(int many) {
        GriefEngine e = drivers(2);
        for (int k = 0; k < many; k++) {
            e.note(k % 2, k, 0, k, 0, k);
        }
        return e;
    }

    private static void notes() {
        C.due("the first note", noted(0).note(0, 0, 0, 0, 0, 0), 1);
        C.due("the 5th note", noted(4).note(0, 0, 0, 0, 0, 0), 5);
        C.due("the 6th note", noted(5).note(1, 99, 3, 200, 2, 99), 6);
        C.refusedApart("a 7th note", () -> noted(6), x -> x.note(0, 0, 0, 0, 0, 0), -4, 2);
        C.due("the 6th counts: is(1)", noted(6).is(1), 2 + 16);
        GriefEngine e = noted(5);
        e.note(1, 1, 1, 200, 1, 1);
        C.due("the 6th counts: is(1) of none", e.is(1), 0);
    }

    private static GriefEngine went(int many) {
        GriefEngine e = drivers(2);
        for (int k = 0; k < many; k++) {
            e.gone(k % 2, 1 + k, 0);
        }
        return e;
    }

    private static void gone() {
        C.due("the first gone", went(0).gone(0, 1, 0), 1);
        C.due("the 3rd gone", went(2).gone(0, 1, 0), 3);
        C.due("the 4th gone", went(3).gone(1, 30, 6000), 4);
        C.refusedApart("a 5th gone", () -> went(4), x -> x.gone(0, 1, 0), -4, 2);
        GriefEngine e = went(3);
        e.gone(1, 30, 6000);
        C.due("the 4th counts: had(1, 0)", e.had(1, 0), 0);
        C.due("the 4th counts: had(1, 1)", e.had(1, 1), -1);
        C.due("had(0, 0)", e.had(0, 0), 1);
    }

    private static void fullIsOfAllDriversTogether() {
        C.refusedApart("a 7th note, of one that has none", FullTest::allOfOne, x -> x.note(1, 0, 0, 0, 0, 0), -4, 2);
        C.refusedApart("a 5th gone, of one that has none", FullTest::allOfOne, x -> x.gone(1, 1, 0), -4, 2);
    }

    private static GriefEngine allOfOne() {
        GriefEngine e = drivers(2);
        for (int k = 0; k < 6; k++) {
            e.note(0, 0, 0, 0, 0, 0);
            e.gone(0, 1, 0);
        }
        return e;
    }

    private static void fullOnceMoreBehindForgetting() {
        GriefEngine e = allOfOne();
        C.due("forget(0)", e.forget(0), 6);
        C.due("forget(1)", e.forget(1), 4);
        for (int k = 1; k <= 6; k++) {
            C.due("note " + k + " anew", e.note(1, k, 0, 0, 0, 0), k);
        }
        for (int k = 1; k <= 4; k++) {
            C.due("gone " + k + " anew", e.gone(1, k, 0), k);
        }
        C.due("a 7th anew", e.note(1, 0, 0, 0, 0, 0), -4);
        C.due("a 5th anew", e.gone(1, 1, 0), -4);
    }

    /** Behind nine the first may be undone no more: it ends at DAY 1, not at 0. */
    private static void eightThatMayBeUndone() {
        for (int many = 7; many <= 17; many++) {
            GriefEngine e = drivers(2);
            for (int k = 0; k < many; k++) {
                e.days(1 + k % 2, k % 3);
                C.due("behind " + (k + 1) + " that may be undone", e.count(6), Math.min(8, k + 1));
            }
            int kept = Math.min(8, many);
            int day = e.count(1);
            for (int k = 1; k <= kept; k++) {
                day -= 1 + (many - k) % 2;
                C.due("of " + many + " undo " + k, e.undo(), day);
                C.due("of " + many + " still left", e.count(6), kept - k);
                C.due("of " + many + " all as then", e.digest(), asBehind(many - k, kept - k));
            }
            C.due("of " + many + " one more", e.undo(), -3);
        }
    }

    /** The digest behind so many calls, with so many in place of those that may be undone. */
    private static long asBehind(int many, int mayBeUndone) {
        GriefEngine e = drivers(2);
        for (int k = 0; k < many; k++) {
            e.days(1 + k % 2, k % 3);
        }
        long h = 1433;
        for (int what = 0; what < 8; what++) {
            h = 31 * h + (what == 6 ? mayBeUndone : e.count(what));
        }
        for (int i = 0; i < 2; i++) {
            for (int what = 0; what < 3; what++) {
                h = 31 * h + e.of(i, what);
            }
        }
        return 31 * (31 * h) + 1;
    }

    private static void isNow(String when, GriefEngine e, int i, int kind, int grief, int miles) {
        C.due(when + ": kind of " + i, e.of(i, 0), kind);
        C.due(when + ": grief of " + i, e.of(i, 1), grief);
        C.due(when + ": miles of " + i, e.of(i, 2), miles);
    }

    /** The last of six is undone, kept in an image, and gone on with as the others are. */
    private static void theSixthOfAFullRank() {
        GriefEngine e = drivers(6);
        C.due("day(5, 0)", e.day(5, 0), 50);
        isNow("behind a day", e, 5, 0, 44, 50);
        C.due("undo()", e.undo(), 0);
        isNow("undone", e, 5, 0, 50, 0);
        e.day(5, 0);
        C.due("day(5, 0) again", e.day(5, 0), 44);
        isNow("behind two days", e, 5, 0, 39, 94);
        C.due("undo()", e.undo(), 1);
        isNow("one of two undone", e, 5, 0, 44, 50);
        C.due("image(1)", e.image(1), 1);
        e.rank();
        for (int k = 0; k < 6; k++) {
            e.driver(3, 99);
        }
        e.days(2, 0);
        isNow("another rank", e, 5, 3, 80, 99 + 89);
        C.due("from(1)", e.from(1), 1);
        isNow("from an image", e, 5, 0, 44, 50);
        isNow("from an image", e, 4, 1, 39, 0);
        C.due("undo()", e.undo(), 0);
        isNow("from an image, undone", e, 5, 0, 50, 0);
        isNow("from an image, undone", e, 4, 1, 40, 0);
    }

    private static void theSixthOfATextThatIsRead() {
        String five = "rank;driver 1 1;driver 1 1;driver 1 1;driver 1 1;driver 4 99;";
        GriefEngine e = Check.typed(drivers(6), five + "driver 2 60;days 1 0;");
        C.due("read()", e.read(), 8);
        isNow("read", e, 4, 4, 90, 99);
        isNow("read", e, 5, 2, 53, 20);
        // Of a rank with fewer, nothing of those that were there is left.
        Check.typed(e, "rank;driver 0 7;");
        C.due("read() of one", e.read(), 2);
        C.refused("of(1, 0)", e, x -> x.of(1, 0), -2, 0);
        C.due("the next one's number", e.driver(3, 8), 1);
        isNow("the next one", e, 1, 3, 8, 0);
    }

    private static GriefEngine ofOtherNotes() {
        GriefEngine e = drivers(2);
        for (int k = 0; k < 9; k++) {
            e.days(1, k % 3);
        }
        for (int k = 0; k < 6; k++) {
            e.note(k % 2, 20, 0, 20, 0, 18);
        }
        for (int k = 0; k < 4; k++) {
            e.gone(k % 2, 1, 7);
        }
        return e;
    }

    /** What comes into the place of it is not what the image kept. */
    private static void anImageOfAllThatIsFull() {
        GriefEngine e = ofOtherNotes();
        C.due("image(0)", e.image(0), 1);
        e.forget(0);
        e.forget(1);
        for (int k = 0; k < 6; k++) {
            e.note(k % 2, 20, 1, 0, 2, 20);
        }
        for (int k = 0; k < 4; k++) {
            e.gone(k % 2, 2, 9);
        }
        for (int k = 0; k < 8; k++) {
            e.days(5, 2);
        }
        C.due("is(1), of other notes", e.is(1), 32);
        C.due("from(0)", e.from(0), 1);
        C.due("is(0)", e.is(0), 2 + 16);
        C.due("is(1)", e.is(1), 2 + 16);
        // An old one and a teller gone 7 on the first day.
        C.due("had(0, 1)", e.had(0, 1), 7);
        C.due("had(1, 1)", e.had(1, 1), 7);
        C.same("from(0)", Sight.now(e), Sight.now(ofOtherNotes()));
        C.due("a 7th note", e.note(0, 0, 0, 0, 0, 0), -4);
        C.due("a 5th gone", e.gone(0, 1, 0), -4);
        for (int k = 8; k >= 1; k--) {
            C.due("undo() to day " + k, e.undo(), k);
        }
        C.due("undo() of none", e.undo(), -3);
    }

    private static void badGoesAheadOfFull() {
        Supplier<GriefEngine> full = Ranks::full;
        C.refusedApart("full: driver(6, 0)", full, x -> x.driver(6, 0), -2, 0);
        C.refusedApart("full: driver(0, 100)", full, x -> x.driver(0, 100), -2, 0);
        C.refusedApart("full: driver(5, 99)", full, x -> x.driver(5, 99), -4, 2);
        C.refusedApart("full: type(128)", full, x -> x.type(128), -2, 0);
        C.refusedApart("full: type(-1)", full, x -> x.type(-1), -2, 0);
        C.refusedApart("full: type(127)", full, x -> x.type(127), -4, 2);
        C.refusedApart("full: note, i 6", full, x -> x.note(6, 0, 0, 0, 0, 0), -2, 0);
        C.refusedApart("full: note, y 100", full, x -> x.note(0, 0, 0, 0, 0, 100), -2, 0);
        C.refusedApart("full: note, at its most", full, x -> x.note(5, 99, 3, 200, 2, 99), -4, 2);
        C.refusedApart("full: gone, i 6", full, x -> x.gone(6, 1, 0), -2, 0);
        C.refusedApart("full: gone, x 6001", full, x -> x.gone(0, 1, 6001), -2, 0);
        C.refusedApart("full: gone, at its most", full, x -> x.gone(5, 30, 6000), -4, 2);
    }
}
