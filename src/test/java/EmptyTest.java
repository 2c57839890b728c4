/** What is empty, or none: no DRIVERS, TEXT, NOTES, GONE, nothing to undo, no KIND, no row, one alone. */
public final class EmptyTest {
    private static final Check C = new Check();

    public static void main(String[] args) {
        nothingAtFirst();
        daysOfNoDrivers();
        reckoningOfNoDrivers();
        anEmptyText();
        aTextOfARankAlone();
        noNotes();
        noGone();
        nothingToUndo();
        noKind();
        noRow();
        oneAlone();
        noImage();
        anImageOfNothing();
        theFractionOfNothing();
        C.end();
    }

    private static long digestOf(long... row) {
        long h = 1433;
        for (long v : row) {
            h = 31 * h + v;
        }
        return h;
    }

    private static void nothingAtFirst() {
        GriefEngine e = new GriefEngine();
        for (int what = 0; what < 8; what++) {
            C.due("at first count(" + what + ")", e.count(what), 0);
        }
        for (int what = 0; what < 3; what++) {
            C.due("at first status(" + what + ")", e.status(what), 0);
        }
        C.due("at first part(0)", e.part(0), 0);
        C.due("at first part(1)", e.part(1), 1);
        C.due("at first digest()", e.digest(), digestOf(0, 0, 0, 0, 0, 0, 0, 0, 0, 1));
        C.onlyApart("rank() of no drivers", Ranks::none, x -> x.rank(), 0);
    }

    private static void daysOfNoDrivers() {
        GriefEngine e = new GriefEngine();
        C.due("days(1, 0) of no drivers", e.days(1, 0), 0);
        C.due("days(99, 1) of no drivers", e.days(99, 1), 0);
        C.due("the day", e.count(1), 100);
        C.due("they may be undone", e.count(6), 2);
        C.due("undo()", e.undo(), 1);
        C.due("undo()", e.undo(), 0);
        C.refusedApart("day(0, 0) of no drivers", Ranks::none, x -> x.day(0, 0), -2, 0);
    }

    private static void reckoningOfNoDrivers() {
        C.onlyApart("tell(-1) of no drivers", Ranks::none, x -> x.tell(-1), 0);
        C.onlyApart("years(1, 60) of no drivers", Ranks::none, x -> x.years(1, 60), 0);
        C.refusedApart("tell(0) of no drivers", Ranks::none, x -> x.tell(0), -10, 0);
        C.refusedApart("most(0, 1, -1) of no drivers", Ranks::none, x -> x.most(0, 1, -1), -10, 0);
        C.refusedApart("most(0, 1, 1) of no drivers, not so many either", Ranks::none, x -> x.most(0, 1, 1), -10, 0);
        C.refusedApart("fares(0, 1) of no drivers", Ranks::none, x -> x.fares(0, 1), -2, 0);
        C.refusedApart("fares(0, 1) of one", Ranks::one, x -> x.fares(0, 1), -2, 0);
        C.refusedApart("fares(1, 0) of one", Ranks::one, x -> x.fares(1, 0), -2, 0);
    }

    private static void anEmptyText() {
        C.onlyApart("read() of an empty text", Ranks::none, x -> x.read(), -10);
        C.onlyApart("read() of an empty text", Ranks::one, x -> x.read(), -10);
        C.onlyApart("clear() of an empty text", Ranks::one, x -> x.clear(), 0);
        GriefEngine e = Check.typed(Ranks.one(), "rank;");
        C.due("clear()", e.clear(), 5);
        C.due("bytes behind it", e.count(7), 0);
        C.due("clear() again", e.clear(), 0);
        C.due("read() behind it", e.read(), -10);
        C.due("drivers behind it", e.count(0), 1);
        C.due("one blank", Check.typed(new GriefEngine(), " ").read(), -11);
        C.due("150 blanks", Check.typed(new GriefEngine(), " ".repeat(150)).read(), -160);
    }

    private static void aTextOfARankAlone() {
        GriefEngine e = Check.typed(Ranks.some(), "rank;");
        C.due("read() of a rank alone", e.read(), 1);
        for (int what = 0; what < 7; what++) {
            C.due("behind it count(" + what + ")", e.count(what), 0);
        }
        C.due("behind it the text", e.count(7), 5);
        GriefEngine f = Check.typed(Ranks.some(), "rank;days 99 0;");
        C.due("read() of days of no drivers", f.read(), 2);
        C.due("the day", f.count(1), 99);
        C.due("nothing to undo", f.count(6), 0);
    }

    private static void noNotes() {
        C.onlyApart("is(0) without notes: all kinds", Ranks::one, x -> x.is(0), 63);
        C.onlyApart("forget(0) of no notes", Ranks::one, x -> x.forget(0), 0);
        GriefEngine e = Ranks.full();
        C.due("forget(0) of six", e.forget(0), 6);
        C.due("notes behind it", e.count(4), 0);
        C.due("gone stays", e.count(5), 4);
        C.due("that may be undone stays", e.count(6), 8);
        C.due("forget(0) again", e.forget(0), 0);
        C.due("is(3) behind it", e.is(3), 63);
        C.due("a note behind it", e.note(5, 0, 0, 0, 0, 0), 1);
    }

    private static void noGone() {
        C.onlyApart("had(0, 0) without gone: all griefs", Ranks::one, x -> x.had(0, 0), 100);
        C.onlyApart("had(0, 1) without gone: the least", Ranks::one, x -> x.had(0, 1), 0);
        C.onlyApart("forget(1) of no gone", Ranks::one, x -> x.forget(1), 0);
        GriefEngine e = Ranks.full();
        C.due("forget(1) of four", e.forget(1), 4);
        C.due("gone behind it", e.count(5), 0);
        C.due("notes stay", e.count(4), 6);
        C.due("that may be undone stays", e.count(6), 8);
        C.due("had(0, 0) behind it", e.had(0, 0), 100);
        C.due("gone behind it", e.gone(5, 1, 0), 1);
        GriefEngine f = Ranks.one();
        f.gone(0, 1, 51);
        f.gone(0, 2, 0);
        C.due("had(0, 0): no grief", f.had(0, 0), 0);
        C.due("had(0, 1): none", f.had(0, 1), -1);
        C.due("none is no refusal", f.status(0), 0);
    }

    private static void nothingToUndo() {
        C.refusedApart("undo() at first", Ranks::none, x -> x.undo(), -3, 1);
        C.refusedApart("undo() behind a driver", Ranks::one, x -> x.undo(), -3, 1);
        C.refusedApart("undo() behind the last of them", EmptyTest::undone, x -> x.undo(), -3, 1);
        C.refusedApart("undo() behind rank()", EmptyTest::ranked, x -> x.undo(), -3, 1);
        C.refusedApart("undo() behind read()", EmptyTest::readAnew, x -> x.undo(), -3, 1);
    }

    private static GriefEngine undone() {
        GriefEngine e = Ranks.one();
        e.days(3, 0);
        C.due("the one undo()", e.undo(), 0);
        return e;
    }

    private static GriefEngine ranked() {
        GriefEngine e = Ranks.some();
        e.rank();
        return e;
    }

    private static GriefEngine readAnew() {
        GriefEngine e = Ranks.some();
        C.due("read()", e.read(), 3);
        return e;
    }

    private static GriefEngine ofNoKind() {
        GriefEngine e = Ranks.one();
        e.note(0, 20, 0, 20, 0, 18);
        e.note(0, 20, 0, 20, 0, 17);
        return e;
    }

    private static void noKind() {
        C.onlyApart("is(0) of no kind", EmptyTest::ofNoKind, x -> x.is(0), 0);
        C.onlyApart("look(0) of no kind", EmptyTest::ofNoKind, x -> x.look(0), -1);
        GriefEngine e = ofNoKind();
        e.forget(0);
        C.due("look(0) of all kinds again", e.look(0), 0);
        e.note(0, 20, 2, 40, 2, 17);
        C.due("is(0): a teller alone", e.is(0), 16);
        C.due("look(0) of one kind: the least", e.look(0), 0);
    }

    /** A spring one in spring goes nowhere in seven days; a keeper never gets over it. */
    private static void noRow() {
        GriefEngine e = Ranks.oneOn(20, 3, 99);
        C.due("soonest(0, 1): none", e.soonest(0, 1), -1);
        C.due("most(0, 7, -1): 0", e.most(0, 7, -1), 0);
        C.due("most(0, 7, 0): the first row", e.most(0, 7, 0), 0);
        C.due("most(0, 7, 6): the first row", e.most(0, 7, 6), 0);
        C.due("home(0, 7, 0): 0", e.home(0, 7, 0), 0);
        C.due("home(0, 7, 1): the least", e.home(0, 7, 1), 1);
        C.due("none is no refusal", e.status(0) + e.status(1) + e.status(2), 0);
        C.due("over(0) of a keeper: none", Ranks.oneOn(0, 1, 1).over(0), -1);
        C.due("over(0) of a keeper of 0", Ranks.oneOn(0, 1, 0).over(0), 0);
    }

    private static void oneAlone() {
        C.onlyApart("tell(-1) of one", Ranks::one, x -> x.tell(-1), 0);
        C.onlyApart("tell(0) of one", Ranks::one, x -> x.tell(0), -1);
        GriefEngine e = Ranks.one();
        e.driver(0, 99);
        e.driver(0, 98);
        C.due("tell(0) of three: alone", e.tell(0), -1);
        C.due("tell(1) of three", e.tell(1), 2);
        C.due("tell(2) of three", e.tell(2), 1);
        // A pair that is worth nothing comes ahead of being alone.
        GriefEngine f = Ranks.oneOn(0, 0, 0);
        f.driver(0, 0);
        C.due("tell(-1) of two of 0", f.tell(-1), 0);
        C.due("tell(0) of two of 0", f.tell(0), 1);
    }

    private static void noImage() {
        C.refusedApart("from(0), none kept", Ranks::one, x -> x.from(0), -3, 1);
        C.refusedApart("from(1), none kept", Ranks::one, x -> x.from(1), -3, 1);
        C.refusedApart("from(0), the other kept", Ranks::some, x -> x.from(0), -3, 1);
    }

    private static void anImageOfNothing() {
        GriefEngine e = new GriefEngine();
        C.due("image(1) of nothing", e.image(1), 1);
        e.driver(1, 9);
        e.days(4, 0);
        e.note(0, 1, 1, 1, 1, 1);
        e.gone(0, 1, 1);
        C.due("from(1)", e.from(1), 1);
        C.due("all as at first", e.digest(), new GriefEngine().digest());
        C.due("undo() then", e.undo(), -3);
        C.due("a driver then", e.driver(5, 5), 0);
        C.due("its miles", e.of(0, 2), 0);
    }

    private static void theFractionOfNothing() {
        GriefEngine e = Ranks.one();
        C.due("starts(0, 6, 1)", e.starts(0, 6, 1), 1);
        C.due("it is another", e.part(0) > 1 ? 1 : 0, 1);
        C.due("starts(0, 0, 1)", e.starts(0, 0, 1), 1);
        C.due("of no days: above", e.part(0), 0);
        C.due("of no days: below", e.part(1), 1);
        e.starts(0, 6, 1);
        C.due("starts(0, 6, 10)", e.starts(0, 6, 10), 1);
        C.due("of no starts: above", e.part(0), 0);
        C.due("of no starts: below", e.part(1), 1);
    }
}
