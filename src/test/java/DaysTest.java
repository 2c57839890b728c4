/** Promises 7 to 10: days, day, undo, of; and the kinds, by what a day does to them. */
public final class DaysTest {
    private static final Check C = new Check();

    public static void main(String[] args) {
        kindsByADay();
        seasons();
        days();
        day();
        undo();
        theLastDay();
        of();
        C.end();
    }

    /** Of each kind by grief 99, 45, 1, 0: winter's miles, and what is left by each choice. */
    private static void kindsByADay() {
        int[] griefs = {99, 45, 1, 0};
        int[][][] due = {
            {{99, 89, 99, 98}, {45, 40, 49, 44}, {1, 0, 5, 0}, {0, 0, 4, 0}},
            {{99, 90, 99, 98}, {45, 41, 49, 44}, {1, 1, 5, 0}, {0, 0, 4, 0}},
            {{33, 89, 51, 98}, {15, 40, 24, 44}, {0, 0, 2, 0}, {0, 0, 2, 0}},
            {{99, 89, 99, 98}, {45, 40, 49, 44}, {1, 0, 5, 0}, {0, 0, 4, 0}},
            {{99, 90, 99, 96}, {45, 41, 53, 42}, {1, 1, 9, 0}, {0, 0, 8, 0}},
            {{30, 89, 99, 99}, {30, 40, 49, 45}, {1, 0, 5, 1}, {0, 0, 4, 0}},
        };
        for (int kind = 0; kind < 6; kind++) {
            for (int k = 0; k < griefs.length; k++) {
                for (int c = 0; c < 3; c++) {
                    String of = "kind " + kind + ", grief " + griefs[k] + ", choice " + c;
                    GriefEngine e = new GriefEngine();
                    e.driver(kind, griefs[k]);
                    C.due(of + ": miles", e.days(1, c), c == 0 ? due[kind][k][0] : 0);
                    C.due(of + ": left", e.of(0, 1), due[kind][k][c + 1]);
                    C.due(of + ": miles of it", e.of(0, 2), c == 0 ? due[kind][k][0] : 0);
                    C.due(of + ": the day", e.count(1), 1);
                }
            }
        }
    }

    private static void seasons() {
        int[][] due = {{50, 100, 100, 100}, {50, 100, 100, 100}, {16, 33, 33, 33}, {50, 0, 100, 100},
            {50, 100, 100, 100}, {30, 0, 30, 30}};
        for (int kind = 0; kind < 6; kind++) {
            for (int season = 0; season < 8; season++) {
                for (int edge = 0; edge < 2; edge++) {
                    GriefEngine e = new GriefEngine();
                    for (int d = 0; d < 20 * season + 19 * edge; d++) {
                        e.days(1, 2);
                    }
                    e.driver(kind, 50);
                    C.due("kind " + kind + " on day " + e.count(1), e.days(1, 0), due[kind][season % 4]);
                }
            }
        }
    }

    private static void days() {
        GriefEngine e = new GriefEngine();
        C.due("days(1, 0) of none", e.days(1, 0), 0);
        C.due("the day", e.count(1), 1);
        e.driver(0, 20);
        e.driver(2, 30);
        // 20 + 17 + 15 and 10 + 8 + 7: 20, 17, 15, 13 and 30, 26, 23, 20
        C.due("days(3, 0)", e.days(3, 0), 52 + 25);
        C.due("grief of 0", e.of(0, 1), 13);
        C.due("grief of 1", e.of(1, 1), 20);
        C.due("miles of 0", e.of(0, 2), 52);
        C.due("miles of 1", e.of(1, 2), 25);
        C.due("days(2, 1)", e.days(2, 1), 0);
        C.due("told: grief of 0", e.of(0, 1), 21);
        C.due("told: grief of 1", e.of(1, 1), 8);
        C.due("days(99, 2)", e.days(99, 2), 0);
        C.due("rested: grief of all", e.count(2), 0);
        C.due("rested: miles of all", e.count(3), 77);
        C.due("the day", e.count(1), 105);
        C.due("together one each", e.count(6), 3);
        C.refused("days(0, 0)", e, x -> x.days(0, 0), -2, 0);
        C.refused("days(100, 0)", e, x -> x.days(100, 0), -2, 0);
        C.refused("days(-1, 0)", e, x -> x.days(-1, 0), -2, 0);
        C.refused("days(1, -1)", e, x -> x.days(1, -1), -2, 0);
        C.refused("days(1, 3)", e, x -> x.days(1, 3), -2, 0);
        // Two days of them lie in winter, two in spring, in which it doesn't run.
        GriefEngine f = new GriefEngine();
        f.days(18, 2);
        f.driver(5, 99);
        C.due("days over a season's end", f.days(4, 0), 60);
    }

    private static void day() {
        GriefEngine e = new GriefEngine();
        C.refused("day(0, 0) of none", e, x -> x.day(0, 0), -2, 0);
        e.driver(4, 50);
        e.driver(5, 50);
        e.driver(0, 50);
        C.due("day(2, 0)", e.day(2, 0), 50);
        C.due("the one's grief", e.of(2, 1), 44);
        C.due("the one's miles", e.of(2, 2), 50);
        C.due("a teller rests", e.of(0, 1), 47);
        C.due("an old one rests", e.of(1, 1), 50);
        C.due("no miles of others", e.count(3), 50);
        C.due("the day", e.count(1), 1);
        C.due("day(0, 1)", e.day(0, 1), 0);
        C.due("it is told", e.of(0, 1), 55);
        C.due("a plain one rests", e.of(2, 1), 43);
        C.due("day(1, 2)", e.day(1, 2), 0);
        C.due("three may be undone", e.count(6), 3);
        C.due("undo()", e.undo(), 2);
        C.due("undo()", e.undo(), 1);
        C.due("undone: grief", e.of(0, 1), 47);
        C.refused("day(-1, 0)", e, x -> x.day(-1, 0), -2, 0);
        C.refused("day(3, 0)", e, x -> x.day(3, 0), -2, 0);
        C.refused("day(0, -1)", e, x -> x.day(0, -1), -2, 0);
        C.refused("day(0, 3)", e, x -> x.day(0, 3), -2, 0);
    }

    private static void undo() {
        GriefEngine e = new GriefEngine();
        e.driver(0, 90);
        e.driver(1, 80);
        for (int k = 1; k <= 10; k++) {
            e.days(k, k % 3);
            C.due("may be undone behind " + k, e.count(6), Math.min(8, k));
        }
        e.note(0, 1, 1, 1, 1, 1);
        e.gone(0, 1, 1);
        int[] dayThen = {45, 36, 28, 21, 15, 10, 6, 3};
        for (int k = 0; k < 8; k++) {
            C.due("undo " + k, e.undo(), dayThen[k]);
            C.due("the day", e.count(1), dayThen[k]);
            C.due("may be undone", e.count(6), 7 - k);
        }
        GriefEngine f = new GriefEngine();
        f.driver(0, 90);
        f.driver(1, 80);
        f.days(1, 1);
        f.days(2, 2);
        C.due("grief of all as then", e.count(2), f.count(2));
        C.due("miles of all as then", e.count(3), 0);
        C.due("notes stay", e.count(4), 1);
        C.due("gone stays", e.count(5), 1);
        C.refused("undo() of none", e, x -> x.undo(), -3, 1);
    }

    private static void theLastDay() {
        GriefEngine e = new GriefEngine();
        e.driver(5, 99);
        e.driver(1, 9);
        for (int k = 0; k < 100; k++) {
            e.days(99, 2);
        }
        e.days(98, 2);
        C.due("near the last day", e.count(1), 9998);
        // A keeper's grief was rested away; an old one's never is. 9998 is in an autumn.
        C.due("days(99, 0) near it", e.days(99, 0), 30);
        C.due("the last day", e.count(1), 9999);
        C.due("it was one day", e.of(0, 1), 89);
        C.due("may be undone", e.count(6), 8);
        C.only("days(1, 0) on it", e, x -> x.days(1, 0), 0);
        C.only("day(0, 0) on it", e, x -> x.day(0, 0), 0);
        C.refused("days(0, 0) on it", e, x -> x.days(0, 0), -2, 0);
        C.only("today(0, -1) on it", e, x -> x.today(0, -1), 30);
        // Days 9999 to 10018 or so go on in what changes nothing: 9999 is autumn, 10000 winter.
        GriefEngine f = new GriefEngine();
        for (int k = 0; k < 101; k++) {
            f.days(99, 2);
        }
        f.driver(0, 20);
        C.only("then beyond it", f, x -> x.then(0, 2, 0, 1), 57);
        C.only("most beyond it", f, x -> x.most(0, 2, -1), 57);
        C.only("years beyond it", f, x -> x.years(0, 60) > 0 ? 1 : 0, 1);
        C.due("undo() behind it", e.undo(), 9998);
        C.due("grief as then", e.of(0, 1), 99);
    }

    private static void of() {
        GriefEngine e = new GriefEngine();
        C.refused("of(0, 0) of none", e, x -> x.of(0, 0), -2, 0);
        e.driver(3, 33);
        e.days(1, 0);
        C.only("of(0, 0)", e, x -> x.of(0, 0), 3);
        C.only("of(0, 1)", e, x -> x.of(0, 1), 29);
        C.only("of(0, 2)", e, x -> x.of(0, 2), 33);
        C.refused("of(0, 3)", e, x -> x.of(0, 3), -2, 0);
        C.refused("of(0, -1)", e, x -> x.of(0, -1), -2, 0);
        C.refused("of(1, 0)", e, x -> x.of(1, 0), -2, 0);
        C.refused("of(-1, 0)", e, x -> x.of(-1, 0), -2, 0);
    }
}
