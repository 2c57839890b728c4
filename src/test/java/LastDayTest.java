/** DAYS 9999 at most: what goes by, what may be undone, and what is reckoned beyond it. */
public final class LastDayTest {
    private static final Check C = new Check();
    private static final int LAST = 9999;

    public static void main(String[] args) {
        oneBelow();
        daysThatEndOnIt();
        daysThatWouldGoBeyond();
        nothingGoesByOnIt();
        undoneFromIt();
        aDriverOnIt();
        anImageOfIt();
        aRankAnew();
        reckonedBeyondIt();
        badOnIt();
        C.end();
    }

    private static GriefEngine on(int dayNumber) {
        return Ranks.oneOn(dayNumber, 1, 9);
    }

    /** A keeper of 9 keeps all of it; the last days are in an autumn, 18 miles on each. */
    private static void oneBelow() {
        GriefEngine e = on(LAST - 1);
        C.due("the day", e.count(1), LAST - 1);
        C.due("day(0, 0)", e.day(0, 0), 18);
        C.due("the day", e.count(1), LAST);
        C.due("that may be undone", e.count(6), 1);
        C.due("day(0, 0) on it", e.day(0, 0), 0);
        C.due("the day", e.count(1), LAST);
        C.due("that may be undone", e.count(6), 1);
        C.due("miles", e.of(0, 2), 18);
        GriefEngine f = on(LAST - 1);
        C.due("days(1, 0)", f.days(1, 0), 18);
        C.due("the day", f.count(1), LAST);
        C.due("days(1, 0) on it", f.days(1, 0), 0);
        C.due("miles", f.of(0, 2), 18);
    }

    private static void daysThatEndOnIt() {
        GriefEngine e = on(LAST - 19);
        C.due("days(18, 0)", e.days(18, 0), 18 * 18);
        C.due("the day", e.count(1), LAST - 1);
        GriefEngine f = on(LAST - 19);
        C.due("days(19, 0)", f.days(19, 0), 19 * 18);
        C.due("the day", f.count(1), LAST);
        GriefEngine g = on(LAST - 99);
        C.due("days(99, 2)", g.days(99, 2), 0);
        C.due("the day", g.count(1), LAST);
        C.due("grief", g.of(0, 1), 0);
    }

    private static void daysThatWouldGoBeyond() {
        GriefEngine e = on(LAST - 19);
        C.due("days(20, 0)", e.days(20, 0), 19 * 18);
        C.due("the day", e.count(1), LAST);
        C.due("together one that may be undone", e.count(6), 1);
        C.due("undo()", e.undo(), LAST - 19);
        C.due("miles as then", e.of(0, 2), 0);
        GriefEngine f = on(LAST - 1);
        C.due("days(99, 1)", f.days(99, 1), 0);
        C.due("told once", f.of(0, 1), 13);
        C.due("the day", f.count(1), LAST);
    }

    private static void nothingGoesByOnIt() {
        for (int c = 0; c < 3; c++) {
            int does = c;
            C.onlyApart("on it: days(1, " + c + ")", Ranks::onLastDay, x -> x.days(1, does), 0);
            C.onlyApart("on it: days(99, " + c + ")", Ranks::onLastDay, x -> x.days(99, does), 0);
            C.onlyApart("on it: day(2, " + c + ")", Ranks::onLastDay, x -> x.day(2, does), 0);
            C.onlyApart("on it, none undone: days(1, " + c + ")", () -> on(LAST), x -> x.days(1, does), 0);
            C.onlyApart("on it, none undone: day(0, " + c + ")", () -> on(LAST), x -> x.day(0, does), 0);
        }
    }

    private static void undoneFromIt() {
        GriefEngine e = on(LAST - 1);
        e.days(1, 0);
        C.due("undo()", e.undo(), LAST - 1);
        C.due("the day", e.count(1), LAST - 1);
        C.due("miles as then", e.of(0, 2), 0);
        C.due("day(0, 0) anew", e.day(0, 0), 18);
        C.due("the day", e.count(1), LAST);
        C.refusedApart("undo() on it, none may be", () -> on(LAST), x -> x.undo(), -3, 1);
    }

    private static void aDriverOnIt() {
        GriefEngine e = on(LAST);
        C.due("a driver on it", e.driver(0, 20), 1);
        C.due("the day", e.count(1), LAST);
        C.due("runs, in autumn", e.today(1, -1), 40);
        C.due("days(5, 0)", e.days(5, 0), 0);
        C.due("its grief", e.of(1, 1), 20);
    }

    private static void anImageOfIt() {
        GriefEngine e = on(LAST);
        e.image(0);
        e.rank();
        C.due("from(0)", e.from(0), 1);
        C.due("the day", e.count(1), LAST);
        C.due("days(1, 0)", e.days(1, 0), 0);
    }

    private static void aRankAnew() {
        GriefEngine e = on(LAST);
        C.due("rank()", e.rank(), 1);
        C.due("the day", e.count(1), 0);
        GriefEngine f = Check.typed(on(LAST), "rank;driver 1 9;days 2 0;");
        C.due("read()", f.read(), 3);
        C.due("the day", f.count(1), 2);
        C.due("miles", f.of(0, 2), 18);
    }

    /** 9999 is the last of an autumn, 10000 the first of a winter: 18 miles, then 9 on each. */
    private static void reckonedBeyondIt() {
        C.onlyApart("today(0, -1)", () -> on(LAST), x -> x.today(0, -1), 18);
        C.onlyApart("today(0, 1)", () -> on(LAST), x -> x.today(0, 1), 13);
        C.onlyApart("then(0, 1, 0, 1)", () -> on(LAST), x -> x.then(0, 1, 0, 1), 18);
        C.onlyApart("then(0, 2, 0, 1)", () -> on(LAST), x -> x.then(0, 2, 0, 1), 27);
        C.onlyApart("then(0, 21, 0, 1)", () -> on(LAST), x -> x.then(0, 21, 0, 1), 18 + 20 * 9);
        C.onlyApart("then(0, 22, 0, 1)", () -> on(LAST), x -> x.then(0, 22, 0, 1), 18 + 20 * 9 + 18);
        C.onlyApart("then(0, 99, 1, 0)", () -> on(LAST), x -> x.then(0, 99, 1, 0), 99);
        C.onlyApart("over(0)", () -> Ranks.oneOn(LAST, 0, 20), x -> x.over(0), 14);
        C.onlyApart("most(0, 1, -1)", () -> on(LAST), x -> x.most(0, 1, -1), 18);
        C.onlyApart("most(0, 2, -1)", () -> on(LAST), x -> x.most(0, 2, -1), 27);
        C.onlyApart("soonest(0, 18)", () -> on(LAST), x -> x.soonest(0, 18), 1);
        C.onlyApart("soonest(0, 19)", () -> on(LAST), x -> x.soonest(0, 19), 2);
        C.onlyApart("soonest(0, 27)", () -> on(LAST), x -> x.soonest(0, 27), 2);
        C.onlyApart("home(0, 2, 0)", () -> on(LAST), x -> x.home(0, 2, 0), 9);
        // X behind 0 is 12345, then 1406932606: 0 by 65536, 21468 by 65536: it drives on both.
        C.onlyApart("years(0, 1)", () -> on(LAST), x -> x.years(0, 1), 18);
        C.onlyApart("years(0, 2)", () -> on(LAST), x -> x.years(0, 2), 27);
        GriefEngine e = on(LAST);
        C.due("starts(0, 2, 0)", e.starts(0, 2, 0), 1);
        C.due("part(0)", e.part(0), 27);
        C.due("the day stays", e.count(1), LAST);
    }

    private static void badOnIt() {
        C.refusedApart("on it: days(0, 0)", Ranks::onLastDay, x -> x.days(0, 0), -2, 0);
        C.refusedApart("on it: days(100, 0)", Ranks::onLastDay, x -> x.days(100, 0), -2, 0);
        C.refusedApart("on it: days(1, 3)", Ranks::onLastDay, x -> x.days(1, 3), -2, 0);
        C.refusedApart("on it: day(3, 0)", Ranks::onLastDay, x -> x.day(3, 0), -2, 0);
        C.refusedApart("on it: day(0, 3)", Ranks::onLastDay, x -> x.day(0, 3), -2, 0);
    }
}
