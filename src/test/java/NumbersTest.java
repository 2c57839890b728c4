import java.lang.reflect.Method;
import java.util.ArrayList;
import java.util.Arrays;
import java.util.List;
import java.util.function.Supplier;

/**
 * Each number that a call takes: at its least and its most the call stands, one below and one above
 * it is refused as BAD, and nothing but STATUS is another then.
 */
public final class NumbersTest {
    private static final Check C = new Check();
    /** In a row of bounds: the number of the last DRIVER. */
    private static final int LAST_DRIVER = -99;
    /** In a row of bounds: there is no most. */
    private static final int NO_MOST = Integer.MAX_VALUE;

    /** A call; its answer if refused; a least and a most for each of its numbers; some that stand. */
    private record Face(String name, int refused, int[] bounds, int... good) {}

    private static final List<Face> FACES = List.of(
        new Face("driver", -2, new int[] {0, 5, 0, 99}, 3, 50),
        new Face("type", -2, new int[] {0, 127}, 59),
        new Face("days", -2, new int[] {1, 99, 0, 2}, 5, 1),
        new Face("day", -2, new int[] {0, LAST_DRIVER, 0, 2}, 0, 0),
        new Face("of", -2, new int[] {0, LAST_DRIVER, 0, 2}, 0, 1),
        new Face("today", -2, new int[] {0, LAST_DRIVER, -1, 2}, 0, 1),
        new Face("then", -2, new int[] {0, LAST_DRIVER, 0, 99, 0, 2, 0, 1}, 0, 9, 0, 1),
        new Face("over", -2, new int[] {0, LAST_DRIVER}, 0),
        new Face("most", -10, new int[] {0, LAST_DRIVER, 1, 7, -1, NO_MOST}, 0, 3, -1),
        new Face("soonest", -2, new int[] {0, LAST_DRIVER, 1, 999}, 0, 40),
        new Face("home", -2, new int[] {0, LAST_DRIVER, 2, 7, 0, 1}, 0, 4, 0),
        new Face("tell", -10, new int[] {-1, LAST_DRIVER}, 0),
        new Face("note", -2, new int[] {0, LAST_DRIVER, 0, 99, 0, 3, 0, 200, 0, 2, 0, 99}, 0, 9, 1, 18, 0, 8),
        new Face("gone", -2, new int[] {0, LAST_DRIVER, 1, 30, 0, 6000}, 0, 3, 90),
        new Face("forget", -2, new int[] {0, 1}, 0),
        new Face("is", -2, new int[] {0, LAST_DRIVER}, 0),
        new Face("look", -2, new int[] {0, LAST_DRIVER}, 0),
        new Face("had", -2, new int[] {0, LAST_DRIVER, 0, 1}, 0, 0),
        new Face("fares", -2, new int[] {0, LAST_DRIVER, 0, LAST_DRIVER}, 0, 1),
        new Face("starts", -2, new int[] {0, LAST_DRIVER, 0, 6, 0, 10}, 0, 2, 3),
        new Face("years", -2, new int[] {0, 999999, 0, 60}, 7, 9),
        new Face("part", -2, new int[] {0, 1}, 0),
        new Face("image", -2, new int[] {0, 1}, 0),
        new Face("from", -2, new int[] {0, 1}, 0),
        new Face("status", -1, new int[] {0, 2}, 0),
        new Face("count", -2, new int[] {0, 7}, 0));

    public static void main(String[] args) {
        everyCallWithNumbersIsHere();
        for (String state : Ranks.NAMES) {
            for (Face face : FACES) {
                for (int p = 0; p < face.good.length; p++) {
                    oneNumber(state, face, p);
                }
            }
        }
        C.end();
    }

    private static void everyCallWithNumbersIsHere() {
        List<String> due = new ArrayList<>();
        for (Method m : GriefEngine.class.getDeclaredMethods()) {
            if (java.lang.reflect.Modifier.isPublic(m.getModifiers()) && m.getParameterCount() > 0) {
                due.add(m.getName() + " " + m.getParameterCount());
            }
        }
        List<String> here = new ArrayList<>();
        for (Face face : FACES) {
            here.add(face.name + " " + face.good.length);
        }
        due.sort(null);
        here.sort(null);
        C.same("the calls that take numbers", here, due);
    }

    private static void oneNumber(String state, Face face, int p) {
        Supplier<GriefEngine> maker = Ranks.named(state);
        int drivers = maker.get().count(0);
        int least = face.bounds[2 * p];
        boolean byDriver = face.bounds[2 * p + 1] == LAST_DRIVER;
        int most = byDriver ? drivers - 1 : face.bounds[2 * p + 1];
        if (standsIn(face, drivers)) {
            for (int v : new int[] {least, Math.min(most, least + 1), Math.max(least, most - 1), most}) {
                stands(state, maker, face, with(face, p, v));
            }
        }
        refused(state, maker, face, with(face, p, least - 1));
        refused(state, maker, face, with(face, p, Integer.MIN_VALUE));
        if (most != NO_MOST) {
            refused(state, maker, face, with(face, p, most + 1));
            refused(state, maker, face, with(face, p, Integer.MAX_VALUE));
        }
    }

    /** A call that names a DRIVER needs one, FARES two; TELL can be asked of none. */
    private static boolean standsIn(Face face, int drivers) {
        int needed = face.name.equals("fares") ? 2 : face.bounds[0] == 0 && face.bounds[1] == LAST_DRIVER ? 1 : 0;
        return drivers >= needed;
    }

    private static int[] with(Face face, int p, int v) {
        int[] row = face.good.clone();
        row[p] = v;
        if (face.name.equals("fares") && row[0] == row[1]) {
            row[1 - p] = v == 0 ? 1 : 0;
        }
        return row;
    }

    /** Not refused as BAD; what is full, or was not kept, may still be refused as such. */
    private static void stands(String state, Supplier<GriefEngine> maker, Face face, int[] row) {
        GriefEngine e = maker.get();
        String told = state + ": " + face.name + Arrays.toString(row);
        int bad = e.status(0);
        long answer = call(e, face.name, row);
        boolean isBad = answer == face.refused && !face.name.equals("status") && answer != -1;
        C.due(told + " is BAD", isBad ? 1 : 0, 0);
        C.due(told + ", then status(0)", e.status(0), bad);
    }

    private static void refused(String state, Supplier<GriefEngine> maker, Face face, int[] row) {
        String told = state + ": " + face.name + Arrays.toString(row);
        C.refusedApart(told, maker, e -> call(e, face.name, row), face.refused, 0);
    }

    private static long call(GriefEngine e, String name, int[] row) {
        Class<?>[] types = new Class<?>[row.length];
        Arrays.fill(types, int.class);
        try {
            Object[] values = Arrays.stream(row).boxed().toArray();
            return ((Number) GriefEngine.class.getMethod(name, types).invoke(e, values)).longValue();
        } catch (ReflectiveOperationException thrown) {
            throw new IllegalStateException(name + Arrays.toString(row), thrown);
        }
    }
}
