import java.util.ArrayList;
import java.util.HashMap;
import java.util.List;
import java.util.Map;

/** IS, LOOK and HAD by every GRIEF, and by every note and every way gone that a KIND can have. */
public final class EveryNoteTest {
    private static final Check C = new Check();
    private static final int[] DAYS_GONE = {1, 2, 3, 19, 20, 21, 22, 29, 30};

    public static void main(String[] args) {
        isByEveryNote();
        lookByEverySetOfKinds();
        hadByEveryGrief();
        C.end();
    }

    /** A note that a kind has, one with a mile more, and one with one more left. */
    private static void isByEveryNote() {
        for (int kind = 0; kind < 6; kind++) {
            for (int g = 0; g < 100; g++) {
                for (int s = 0; s < 4; s++) {
                    for (int c = 0; c < 3; c++) {
                        int x = Model.runs(kind, s, g);
                        int y = Model.left(kind, c, g);
                        is(g, s, x, c, y);
                        is(g, s, x + 1, c, y);
                        is(g, s, x, c, Math.min(99, y + 1));
                    }
                }
            }
        }
    }

    private static void is(int g, int s, int x, int c, int y) {
        GriefEngine e = Ranks.one();
        e.note(0, g, s, x, c, y);
        int due = 0;
        for (int kind = 0; kind < 6; kind++) {
            due += Model.runs(kind, s, g) == x && Model.left(kind, c, g) == y ? 1 << kind : 0;
        }
        C.due("is(0) by " + List.of(g, s, x, c, y), e.is(0), due);
    }

    /** By rows of notes that leave each set of kinds that notes can leave at all. */
    private static void lookByEverySetOfKinds() {
        for (Map.Entry<Integer, List<int[]>> set : setsOfKinds().entrySet()) {
            for (int grief = 0; grief < 100; grief++) {
                GriefEngine e = Ranks.oneOn(0, 0, grief);
                for (int[] n : set.getValue()) {
                    e.note(0, n[0], n[1], n[2], n[3], n[4]);
                }
                String of = "kinds " + set.getKey() + ", of " + grief + ": ";
                C.due(of + "is(0)", e.is(0), set.getKey());
                C.due(of + "look(0)", e.look(0), lookOf(set.getKey(), grief));
            }
        }
    }

    private static Map<Integer, List<int[]>> setsOfKinds() {
        Map<Integer, List<int[]>> sets = new HashMap<>();
        List<Integer> open = new ArrayList<>(List.of(63));
        sets.put(63, List.of());
        while (!open.isEmpty()) {
            int set = open.remove(0);
            for (int[] note : notesThatPart()) {
                int less = set & note[5];
                if (!sets.containsKey(less) && sets.get(set).size() < 6) {
                    List<int[]> more = new ArrayList<>(sets.get(set));
                    more.add(note);
                    sets.put(less, more);
                    open.add(less);
                }
            }
        }
        return sets;
    }

    /** Notes of some griefs as each kind has them, and the kinds that have them so. */
    private static List<int[]> notesThatPart() {
        List<int[]> notes = new ArrayList<>();
        for (int g : new int[] {0, 1, 2, 4, 15, 20, 50, 95, 99}) {
            for (int code = 0; code < 72; code++) {
                int kind = code % 6;
                int s = code / 6 % 4;
                int c = code / 24;
                int x = Model.runs(kind, s, g);
                int y = Model.left(kind, c, g);
                int alike = 0;
                for (int other = 0; other < 6; other++) {
                    alike += Model.runs(other, s, g) == x && Model.left(other, c, g) == y ? 1 << other : 0;
                }
                notes.add(new int[] {g, s, x, c, y, alike});
            }
        }
        return notes;
    }

    private static int lookOf(int set, int grief) {
        int best = -1;
        int fewest = 7;
        for (int code = 0; code < 12 && set != 0; code++) {
            int s = code / 3;
            int c = code % 3;
            int most = 0;
            for (int a = 0; a < 6; a++) {
                int alike = 0;
                for (int b = 0; b < 6; b++) {
                    boolean both = (set >> a & 1) == 1 && (set >> b & 1) == 1;
                    boolean like = Model.runs(a, s, grief) == Model.runs(b, s, grief)
                        && Model.left(a, c, grief) == Model.left(b, c, grief);
                    alike += both && like ? 1 : 0;
                }
                most = Math.max(most, alike);
            }
            if (most < fewest) {
                fewest = most;
                best = 10 * s + c;
            }
        }
        return best;
    }

    /** As far as each grief goes in so many days, and a mile farther. */
    private static void hadByEveryGrief() {
        for (int kind = 0; kind < 6; kind++) {
            for (int n : DAYS_GONE) {
                int[] gone = new int[100];
                for (int g = 0; g < 100; g++) {
                    gone[g] = milesOf(kind, g, n);
                }
                for (int g = 0; g < 100; g++) {
                    had(kind, n, gone[g], gone);
                    had(kind, n, gone[g] + 1, gone);
                }
            }
        }
    }

    private static int milesOf(int kind, int grief, int n) {
        int miles = 0;
        int g = grief;
        for (int d = 0; d < n; d++) {
            miles += Model.runs(kind, d < 20 ? 0 : 1, g);
            g = Model.left(kind, 0, g);
        }
        return miles;
    }

    private static void had(int kind, int n, int x, int[] gone) {
        GriefEngine e = Ranks.oneOn(0, kind, 50);
        e.gone(0, n, x);
        int many = 0;
        int least = -1;
        for (int g = 99; g >= 0; g--) {
            many += gone[g] == x ? 1 : 0;
            least = gone[g] == x ? g : least;
        }
        String of = "kind " + kind + " gone " + x + " in " + n + ": ";
        C.due(of + "how many", e.had(0, 0), many);
        C.due(of + "the least", e.had(0, 1), least);
    }
}
