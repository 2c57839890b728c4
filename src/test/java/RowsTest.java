import java.util.Arrays;

/**
 * MOST, SOONEST and HOME of every KIND and GRIEF, on days whose seven lie in one season and on all
 * whose seven don't, held against all rows, walked one by one.
 */
public final class RowsTest {
    private static final Check C = new Check();
    private static final int LONGEST = 7;
    /** Behind the 13th day of a season the seven days go into the next one. */
    private static final int[] DAYS_OF_SEASON = {0, 13, 14, 15, 16, 17, 18, 19};

    private final int kind;
    private final int[] most = new int[LONGEST + 1];
    private final int[][] first = new int[LONGEST + 1][];
    private final int[] far = new int[LONGEST + 1];
    private final int[] turn = new int[LONGEST + 1];
    private final int[] row = new int[LONGEST];
    private final int[] gone = new int[LONGEST + 1];

    private RowsTest(int kind, int day, int grief) {
        this.kind = kind;
        Arrays.fill(most, -1);
        Arrays.fill(far, -1);
        walk(0, day, grief);
    }

    public static void main(String[] args) {
        for (int s = 0; s < 4; s++) {
            for (int d : DAYS_OF_SEASON) {
                for (int grief = 0; grief < 100; grief++) {
                    everyKind(20 * s + d, grief);
                }
            }
        }
        C.end();
    }

    private static void everyKind(int day, int grief) {
        GriefEngine e = Ranks.oneOn(day, 0, grief);
        for (int kind = 1; kind < 6; kind++) {
            e.driver(kind, grief);
        }
        for (int kind = 0; kind < 6; kind++) {
            new RowsTest(kind, day, grief).against(e, "kind " + kind + " of " + grief + " on day " + day + ": ");
        }
    }

    /** In rising order, so that the first of like rows is met first. */
    private void walk(int n, int day, int grief) {
        if (n > 0) {
            look(n);
        }
        if (n == LONGEST) {
            return;
        }
        for (int c = 0; c < 3; c++) {
            row[n] = c;
            gone[n + 1] = gone[n] + (c == 0 ? Model.runs(kind, Model.season(day), grief) : 0);
            walk(n + 1, day + 1, Model.left(kind, c, grief));
        }
    }

    private void look(int n) {
        if (gone[n] > most[n]) {
            most[n] = gone[n];
            first[n] = Arrays.copyOf(row, n);
        }
        for (int t = 1; t < n; t++) {
            int lesser = Math.min(gone[t], gone[n] - gone[t]);
            if (lesser > far[n] || lesser == far[n] && t < turn[n]) {
                far[n] = lesser;
                turn[n] = t;
            }
        }
    }

    private void against(GriefEngine e, String of) {
        for (int n = 1; n <= LONGEST; n++) {
            C.due(of + "most in " + n, e.most(kind, n, GriefEngine.NONE), most[n]);
            for (int k = 0; k < n; k++) {
                C.due(of + "choice " + k + " of " + n, e.most(kind, n, k), first[n][k]);
            }
            soonest(e, of, most[n]);
            soonest(e, of, most[n] + 1);
        }
        for (int n = 2; n <= LONGEST; n++) {
            C.due(of + "home in " + n, e.home(kind, n, 0), far[n]);
            C.due(of + "home in " + n + ", its turn", e.home(kind, n, 1), turn[n]);
        }
    }

    private void soonest(GriefEngine e, String of, int x) {
        if (x < 1 || x > 999) {
            return;
        }
        int due = GriefEngine.NONE;
        for (int n = LONGEST; n >= 1; n--) {
            due = most[n] >= x ? n : due;
        }
        C.due(of + "soonest for " + x, e.soonest(kind, x), due);
    }
}
