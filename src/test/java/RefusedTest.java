import java.util.function.Supplier;

/** How a call is refused: the first of BAD, NO, FULL; by which number; what counts, and what does not. */
public final class RefusedTest {
    private static final Check C = new Check();

    public static void main(String[] args) {
        onceByManyWrongNumbers();
        badGoesAheadOfNo();
        otherNumbersCountAsBad();
        alikeIsBad();
        notSoManyIsNoRefusal();
        noneIsNoRefusal();
        statusStays();
        statusOfAnother();
        everyReasonApart();
        whatIsAskedOfTheRankNeverChangesIt();
        C.end();
    }

    private static void onceByManyWrongNumbers() {
        for (String state : Ranks.NAMES) {
            Supplier<GriefEngine> maker = Ranks.named(state);
            C.refusedApart(state + ": driver(-1, -1)", maker, x -> x.driver(-1, -1), -2, 0);
            C.refusedApart(state + ": days(0, 3)", maker, x -> x.days(0, 3), -2, 0);
            C.refusedApart(state + ": day(-1, -1)", maker, x -> x.day(-1, -1), -2, 0);
            C.refusedApart(state + ": of(6, 3)", maker, x -> x.of(6, 3), -2, 0);
            C.refusedApart(state + ": then(6, 100, 3, 2)", maker, x -> x.then(6, 100, 3, 2), -2, 0);
            C.refusedApart(state + ": most(6, 8, 9)", maker, x -> x.most(6, 8, 9), -10, 0);
            C.refusedApart(state + ": most(-1, 0, -2)", maker, x -> x.most(-1, 0, -2), -10, 0);
            C.refusedApart(state + ": soonest(6, 0)", maker, x -> x.soonest(6, 0), -2, 0);
            C.refusedApart(state + ": home(6, 8, 2)", maker, x -> x.home(6, 8, 2), -2, 0);
            C.refusedApart(state + ": note, all", maker, x -> x.note(6, 100, 4, 201, 3, 100), -2, 0);
            C.refusedApart(state + ": gone(6, 31, 6001)", maker, x -> x.gone(6, 31, 6001), -2, 0);
            C.refusedApart(state + ": had(6, 2)", maker, x -> x.had(6, 2), -2, 0);
            C.refusedApart(state + ": fares(6, 6)", maker, x -> x.fares(6, 6), -2, 0);
            C.refusedApart(state + ": starts(6, 7, 11)", maker, x -> x.starts(6, 7, 11), -2, 0);
            C.refusedApart(state + ": years(1000000, 61)", maker, x -> x.years(1000000, 61), -2, 0);
        }
    }

    private static void badGoesAheadOfNo() {
        C.refusedApart("from(2), none kept", Ranks::none, x -> x.from(2), -2, 0);
        C.refusedApart("from(-1), none kept", Ranks::none, x -> x.from(-1), -2, 0);
        C.refusedApart("from(0), none kept", Ranks::none, x -> x.from(0), -3, 1);
        C.refusedApart("from(1), none kept", Ranks::none, x -> x.from(1), -3, 1);
    }

    private static void otherNumbersCountAsBad() {
        C.refusedApart("most(0, 0, 0)", Ranks::full, x -> x.most(0, 0, 0), -10, 0);
        C.refusedApart("most(0, 1, -2)", Ranks::full, x -> x.most(0, 1, -2), -10, 0);
        C.refusedApart("most(6, 1, -1)", Ranks::full, x -> x.most(6, 1, -1), -10, 0);
        C.refusedApart("tell(6)", Ranks::full, x -> x.tell(6), -10, 0);
        C.refusedApart("tell(-2)", Ranks::full, x -> x.tell(-2), -10, 0);
        C.refusedApart("status(3)", Ranks::full, x -> x.status(3), -1, 0);
        C.refusedApart("status(-1)", Ranks::full, x -> x.status(-1), -1, 0);
    }

    private static void alikeIsBad() {
        for (int k = 0; k < 6; k++) {
            int i = k;
            C.refusedApart("fares(" + i + ", " + i + ")", Ranks::full, x -> x.fares(i, i), -2, 0);
        }
    }

    private static void notSoManyIsNoRefusal() {
        for (int k = 1; k <= 7; k++) {
            int n = k;
            C.onlyApart("most(0, " + n + ", " + n + ")", Ranks::some, x -> x.most(0, n, n), -5);
            C.onlyApart("most(0, " + n + ", most of all)", Ranks::some, x -> x.most(0, n, Integer.MAX_VALUE), -5);
        }
        // What it has not so many of must be as told itself.
        C.refusedApart("most(0, 0, 0)", Ranks::some, x -> x.most(0, 0, 0), -10, 0);
        C.refusedApart("most(0, 8, 8)", Ranks::some, x -> x.most(0, 8, 8), -10, 0);
        C.refusedApart("most(3, 7, 7)", Ranks::some, x -> x.most(3, 7, 7), -10, 0);
    }

    private static GriefEngine ofNone() {
        GriefEngine e = Ranks.oneOn(20, 3, 40);
        e.driver(1, 40);
        e.note(0, 0, 0, 1, 0, 0);
        e.gone(0, 1, 1000);
        return e;
    }

    private static void noneIsNoRefusal() {
        C.onlyApart("over(1): none", RefusedTest::ofNone, x -> x.over(1), -1);
        C.onlyApart("soonest(0, 1): none", RefusedTest::ofNone, x -> x.soonest(0, 1), -1);
        C.onlyApart("look(0): none", RefusedTest::ofNone, x -> x.look(0), -1);
        C.onlyApart("had(0, 1): none", RefusedTest::ofNone, x -> x.had(0, 1), -1);
        C.onlyApart("tell(0): alone", Ranks::one, x -> x.tell(0), -1);
    }

    private static GriefEngine refusedSome() {
        GriefEngine e = Check.typed(Ranks.full(), "rank;driver 1 1;");
        e.of(0, 3);
        e.most(0, 8, 0);
        e.status(7);
        e.driver(0, 0);
        e.driver(0, 0);
        for (int k = 0; k < 12; k++) {
            e.undo();
        }
        return e;
    }

    private static void statusIs(String behind, GriefEngine e, int bad, int no, int full) {
        C.due(behind + ": status(0)", e.status(0), bad);
        C.due(behind + ": status(1)", e.status(1), no);
        C.due(behind + ": status(2)", e.status(2), full);
    }

    /** What takes the place of all else leaves STATUS as it is. */
    private static void statusStays() {
        GriefEngine e = refusedSome();
        statusIs("at first", e, 3, 4, 2);
        e.rank();
        statusIs("rank()", e, 3, 4, 2);
        e.from(1);
        statusIs("from(1)", e, 3, 4, 2);
        C.due("read()", e.read(), 2);
        statusIs("read()", e, 3, 4, 2);
        e.image(0);
        e.type(200);
        e.from(0);
        statusIs("from(0), of an image ahead of it", e, 4, 4, 2);
        e.clear();
        e.forget(0);
        statusIs("clear(), forget(0)", e, 4, 4, 2);
    }

    private static void statusOfAnother() {
        GriefEngine e = new GriefEngine();
        C.due("status(3)", e.status(3), -1);
        C.due("status(0)", e.status(0), 1);
        C.due("status(-1)", e.status(-1), -1);
        C.due("status(0)", e.status(0), 2);
        C.due("status(0) again", e.status(0), 2);
        C.due("status(1)", e.status(1), 0);
        C.due("status(2)", e.status(2), 0);
    }

    private static void everyReasonApart() {
        GriefEngine e = Ranks.full();
        statusIs("at first", e, 0, 0, 0);
        C.due("BAD", e.count(8), -2);
        statusIs("a BAD", e, 1, 0, 0);
        C.due("FULL", e.type(0), -4);
        statusIs("a FULL", e, 1, 0, 1);
        e.rank();
        C.due("NO", e.undo(), -3);
        statusIs("a NO", e, 1, 1, 1);
    }

    private static void whatIsAskedOfTheRankNeverChangesIt() {
        for (String state : new String[] {"some", "full", "on the last day"}) {
            Supplier<GriefEngine> maker = Ranks.named(state);
            asked(state + ": today", maker, x -> x.today(1, -1) + x.today(1, 0));
            asked(state + ": then", maker, x -> x.then(1, 99, 0, 1));
            asked(state + ": over", maker, x -> x.over(2));
            asked(state + ": most", maker, x -> x.most(0, 7, -1));
            asked(state + ": most, its 7th", maker, x -> x.most(0, 7, 6));
            asked(state + ": soonest", maker, x -> x.soonest(0, 300));
            asked(state + ": home", maker, x -> x.home(0, 7, 0));
            asked(state + ": tell", maker, x -> x.tell(-1));
            asked(state + ": is", maker, x -> x.is(0));
            asked(state + ": look", maker, x -> x.look(0));
            asked(state + ": had", maker, x -> x.had(2, 0));
            asked(state + ": fares", maker, x -> x.fares(0, 2));
            asked(state + ": years", maker, x -> x.years(999999, 60));
        }
    }

    private static void asked(String call, Supplier<GriefEngine> maker, Check.Call made) {
        C.onlyApart(call, maker, made, made.on(maker.get()));
    }
}
