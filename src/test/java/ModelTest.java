import java.lang.reflect.InvocationTargetException;
import java.lang.reflect.Method;
import java.util.ArrayList;
import java.util.Arrays;
import java.util.Comparator;
import java.util.List;
import java.util.Random;

/** Runs of calls, drawn from seeds, on the class and on Model: all answers and digests alike. */
public final class ModelTest {
    private static final int RUNS = 400;
    private static final int CALLS = 300;

    private static final List<Method> CALLS_OF_CLASS = new ArrayList<>();
    private static final List<Method> CALLS_OF_MODEL = new ArrayList<>();
    private static int wrong = 0;

    public static void main(String[] args) throws Exception {
        collectCalls();
        for (int run = 0; run < RUNS && wrong < 20; run++) {
            oneRun(run);
        }
        System.out.println(wrong == 0 ? "the class and the model are alike" : wrong + " answers are not alike");
        if (wrong != 0) {
            System.exit(1);
        }
    }

    private static void collectCalls() throws NoSuchMethodException {
        Method[] all = GriefEngine.class.getDeclaredMethods();
        Arrays.sort(all, Comparator.comparing(Method::getName));
        for (Method m : all) {
            if (java.lang.reflect.Modifier.isPublic(m.getModifiers())) {
                CALLS_OF_CLASS.add(m);
                CALLS_OF_MODEL.add(Model.class.getMethod(m.getName(), m.getParameterTypes()));
            }
        }
    }

    private static void oneRun(int run) throws Exception {
        Random random = new Random(run);
        GriefEngine engine = new GriefEngine();
        Model model = new Model();
        List<String> told = new ArrayList<>();
        for (int k = 0; k < CALLS && wrong < 20; k++) {
            if (random.nextInt(25) == 0) {
                typeText(engine, model, random);
            }
            int at = random.nextInt(CALLS_OF_CLASS.size());
            Method call = CALLS_OF_CLASS.get(at);
            // A rank that is made anew too often never grows.
            if ((call.getName().equals("rank") || call.getName().equals("clear")) && random.nextInt(6) != 0) {
                continue;
            }
            Object[] values = argumentsFor(call, random, model);
            told.add(call.getName() + Arrays.toString(values));
            Object got = invoke(call, engine, values, run, told);
            Object due = CALLS_OF_MODEL.get(at).invoke(model, values);
            if (!due.equals(got) || engine.digest() != model.digest() || unlikeStatus(engine, model)) {
                wrong++;
                System.out.println("run " + run + ": " + told + " answered " + got + ", due is " + due);
                return;
            }
        }
    }

    private static boolean unlikeStatus(GriefEngine engine, Model model) {
        boolean unlike = false;
        for (int what = 0; what < 3; what++) {
            unlike |= engine.status(what) != model.status(what);
        }
        return unlike;
    }

    private static Object invoke(Method call, GriefEngine engine, Object[] values, int run, List<String> told)
            throws Exception {
        try {
            return call.invoke(engine, values);
        } catch (InvocationTargetException thrown) {
            System.out.println("run " + run + ": " + told + " threw " + thrown.getCause());
            return null;
        }
    }

    private static Object[] argumentsFor(Method call, Random random, Model model) {
        int[] highs = highsOf(call.getName());
        Object[] values = new Object[call.getParameterCount()];
        for (int k = 0; k < values.length; k++) {
            values[k] = random.nextInt(40) == 0 ? wild(random) : random.nextInt(highs[k] + 1);
        }
        if (call.getName().equals("note") && random.nextInt(3) != 0) {
            makeNoteTrue(values, random);
        }
        if (call.getName().equals("gone") && random.nextInt(3) != 0) {
            makeTripTrue(values, random, model);
        }
        boolean mayBeNone = List.of("today", "most", "tell").contains(call.getName());
        if (mayBeNone && random.nextInt(3) == 0) {
            values[values.length - 1] = -1;
        }
        return values;
    }

    private static int[] highsOf(String name) {
        return switch (name) {
            case "driver" -> new int[] {5, 99};
            case "type" -> new int[] {127};
            case "days" -> new int[] {99, 2};
            case "day" -> new int[] {5, 2};
            case "of" -> new int[] {5, 2};
            case "today" -> new int[] {5, 2};
            case "then" -> new int[] {5, 99, 2, 1};
            case "most" -> new int[] {5, 7, 7};
            case "soonest" -> new int[] {5, 999};
            case "home" -> new int[] {5, 7, 1};
            case "note" -> new int[] {5, 99, 3, 200, 2, 99};
            case "gone" -> new int[] {5, 30, 6000};
            case "had" -> new int[] {5, 1};
            case "fares" -> new int[] {5, 5};
            case "starts" -> new int[] {5, 6, 10};
            case "years" -> new int[] {999999, 60};
            case "forget", "part", "image", "from" -> new int[] {1};
            case "status" -> new int[] {2};
            case "count" -> new int[] {7};
            default -> new int[] {5};
        };
    }

    private static int wild(Random random) {
        int[] some = {-2, -1, 0, 1, 2, 3, 6, 7, 8, 10, 11, 30, 31, 60, 61, 99, 100, 127, 128, 200, 201, 999, 1000,
            6000, 6001, 999999, 1000000, Integer.MAX_VALUE, Integer.MIN_VALUE};
        return some[random.nextInt(some.length)];
    }

    /** Notes that some kind fits, or IS would soon be empty in every run. */
    private static void makeNoteTrue(Object[] v, Random random) {
        int kind = random.nextInt(6);
        int g = Math.floorMod((int) v[1], 100);
        int s = Math.floorMod((int) v[2], 4);
        int c = Math.floorMod((int) v[4], 3);
        v[1] = g;
        v[2] = s;
        v[3] = Model.runs(kind, s, g);
        v[4] = c;
        v[5] = Model.left(kind, c, g);
    }

    private static void makeTripTrue(Object[] v, Random random, Model model) {
        int i = (int) v[0];
        if (i < 0 || i >= model.count(0)) {
            return;
        }
        int kind = model.of(i, 0);
        int n = Math.floorMod((int) v[1], 30) + 1;
        int g = random.nextInt(3) * 40;
        int miles = 0;
        for (int d = 0; d < n; d++) {
            miles += Model.runs(kind, Model.season(d), g);
            g = Model.left(kind, 0, g);
        }
        v[1] = n;
        v[2] = miles;
    }

    private static void typeText(GriefEngine engine, Model model, Random random) {
        engine.clear();
        model.clear();
        String text = drawnText(random);
        for (int k = 0; k < text.length(); k++) {
            engine.type(text.charAt(k));
            model.type(text.charAt(k));
        }
    }

    private static String drawnText(Random random) {
        String[] odd = {"rank", "driver", "days", ";", " ", "0", "99", "100", "3", "ran", "A", "\0", "07", "days 2", "-"};
        StringBuilder text = new StringBuilder("rank;");
        int items = random.nextInt(10);
        for (int k = 0; k < items; k++) {
            text.append(random.nextBoolean()
                ? "driver" + random.nextInt(6) + " " + random.nextInt(100)
                : "days " + (1 + random.nextInt(99)) + "  0" + random.nextInt(3));
            text.append(random.nextInt(4) == 0 ? " ; " : ";");
        }
        if (random.nextInt(3) == 0) {
            text.insert(random.nextInt(text.length() + 1), odd[random.nextInt(odd.length)]);
        }
        if (random.nextInt(4) == 0) {
            text.setLength(random.nextInt(text.length() + 1));
        }
        return text.toString();
    }
}
