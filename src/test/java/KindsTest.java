/**
 * KINDS by every GRIEF and SEASON: what is cut, what is at most so much, and what is kept 0 to 99
 * only when all is reckoned; SEASONS at their bounds.
 */
public final class KindsTest {
    private static final Check C = new Check();
    private static final int DRIVES = 0;
    private static final int TELLS = 1;
    private static final int RESTS = 2;

    public static void main(String[] args) {
        everyGriefInEverySeason();
        cutByTen();
        cutThird();
        thirtyAtMost();
        noneInSpring();
        keptTo99();
        keptFrom0();
        halfOfWhatIsNotYetKept();
        aDayDoesAsTodayTells();
        seasonsAtTheirBounds();
        C.end();
    }

    private static GriefEngine one(int kind, int grief) {
        return Ranks.oneOn(0, kind, grief);
    }

    private static void everyGriefInEverySeason() {
        for (int s = 0; s < 4; s++) {
            for (int kind = 0; kind < 6; kind++) {
                for (int g = 0; g < 100; g++) {
                    GriefEngine e = Ranks.oneOn(20 * s, kind, g);
                    String of = "kind " + kind + ", season " + s + ", grief " + g + ": ";
                    C.due(of + "runs", e.today(0, GriefEngine.NONE), Model.runs(kind, s, g));
                    for (int c = 0; c < 3; c++) {
                        C.due(of + "left by " + c, e.today(0, c), Model.left(kind, c, g));
                    }
                }
            }
        }
    }

    private static void left(String why, int kind, int c, int[] griefs, int... due) {
        for (int k = 0; k < griefs.length; k++) {
            C.due(why + ": kind " + kind + " of " + griefs[k], one(kind, griefs[k]).today(0, c), due[k]);
        }
    }

    private static void runs(String why, int dayNumber, int kind, int[] griefs, int... due) {
        for (int k = 0; k < griefs.length; k++) {
            int got = Ranks.oneOn(dayNumber, kind, griefs[k]).today(0, GriefEngine.NONE);
            C.due(why + ": kind " + kind + " of " + griefs[k] + " on day " + dayNumber, got, due[k]);
        }
    }

    private static void cutByTen() {
        int[] griefs = {9, 10, 11, 19, 20, 89, 90, 99};
        left("less g by 10, cut", 0, DRIVES, griefs, 8, 8, 9, 17, 17, 80, 80, 89);
        left("1 more than plain", 1, DRIVES, griefs, 9, 9, 10, 18, 18, 81, 81, 90);
    }

    private static void cutThird() {
        int[] griefs = {0, 1, 2, 3, 4, 5, 98, 99};
        runs("a third, cut, of half", 0, 2, griefs, 0, 0, 0, 1, 1, 1, 32, 33);
        runs("a third, cut", 20, 2, griefs, 0, 0, 1, 2, 2, 3, 65, 66);
    }

    private static void thirtyAtMost() {
        runs("30 at most, in winter", 0, 5, new int[] {28, 29, 30, 31, 99}, 28, 29, 30, 30, 30);
        runs("30 at most, in summer", 40, 5, new int[] {13, 14, 15, 16, 99}, 26, 28, 30, 30, 30);
        runs("30 at most, in autumn", 60, 5, new int[] {14, 15, 16}, 28, 30, 30);
    }

    private static void noneInSpring() {
        int[] griefs = {0, 1, 99};
        runs("0 in spring", 20, 3, griefs, 0, 0, 0);
        runs("0 in spring", 39, 3, griefs, 0, 0, 0);
        runs("0 in spring", 20, 5, griefs, 0, 0, 0);
        runs("else as plain", 19, 3, griefs, 0, 1, 99);
        runs("else as plain", 40, 3, griefs, 0, 2, 198);
    }

    private static void keptTo99() {
        int[] griefs = {94, 95, 96, 99};
        for (int kind : new int[] {0, 1, 3, 5}) {
            left("kept to 99, told", kind, TELLS, griefs, 98, 99, 99, 99);
        }
        left("kept to 99, told", 4, TELLS, new int[] {90, 91, 92, 99}, 98, 99, 99, 99);
        left("g, at rest", 5, RESTS, new int[] {0, 1, 98, 99}, 0, 1, 98, 99);
    }

    private static void keptFrom0() {
        int[] griefs = {0, 1, 2, 3, 4};
        for (int kind : new int[] {0, 2, 3, 5}) {
            left("kept from 0, driven", kind, DRIVES, griefs, 0, 0, 1, 2, 3);
        }
        for (int kind : new int[] {1, 4}) {
            left("g at most, driven", kind, DRIVES, griefs, 0, 1, 2, 3, 4);
        }
        for (int kind : new int[] {0, 1, 2, 3}) {
            left("kept from 0, at rest", kind, RESTS, griefs, 0, 0, 1, 2, 3);
        }
        left("kept from 0, at rest", 4, RESTS, griefs, 0, 0, 0, 0, 1);
    }

    /** If 99 were kept ahead of the half, all of these had 49 left. */
    private static void halfOfWhatIsNotYetKept() {
        left("half, cut, of g and 4", 2, TELLS, new int[] {0, 1, 2, 3}, 2, 2, 3, 3);
        left("half of what is not yet kept", 2, TELLS, new int[] {94, 95, 96, 97, 98, 99}, 49, 49, 50, 50, 51, 51);
    }

    private static void aDayDoesAsTodayTells() {
        for (int kind = 0; kind < 6; kind++) {
            for (int g : new int[] {0, 1, 2, 3, 9, 10, 90, 91, 95, 96, 98, 99}) {
                for (int c = 0; c < 3; c++) {
                    GriefEngine e = one(kind, g);
                    int due = e.today(0, c);
                    int miles = c == DRIVES ? e.today(0, GriefEngine.NONE) : 0;
                    String of = "kind " + kind + " of " + g + " by " + c + ": ";
                    C.due(of + "miles", e.day(0, c), miles);
                    C.due(of + "grief", e.of(0, 1), due);
                    C.due(of + "all miles", e.of(0, 2), miles);
                }
            }
        }
    }

    /** A spring one of 10: 10 in winter, 0 in spring, else 20. */
    private static void seasonsAtTheirBounds() {
        int[] days = {0, 1, 19, 20, 21, 39, 40, 59, 60, 79, 80, 99, 100, 119, 120, 160, 9980, 9998, 9999};
        int[] due = {10, 10, 10, 0, 0, 0, 20, 20, 20, 20, 10, 10, 0, 0, 20, 10, 20, 20, 20};
        for (int k = 0; k < days.length; k++) {
            GriefEngine e = Ranks.oneOn(days[k], 3, 10);
            C.due("the day", e.count(1), days[k]);
            C.due("runs on day " + days[k], e.today(0, GriefEngine.NONE), due[k]);
        }
    }
}
