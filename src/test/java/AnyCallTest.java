import java.lang.reflect.InvocationTargetException;
import java.lang.reflect.Method;
import java.lang.reflect.Modifier;
import java.util.ArrayList;
import java.util.Arrays;
import java.util.Comparator;
import java.util.List;
import java.util.Random;

/** No call throws, whatever its arguments, in any state, and far beyond 512 calls of one object. */
public final class AnyCallTest {
    private static final int[] EDGES = {Integer.MIN_VALUE, Integer.MIN_VALUE + 1, -1000, -2, -1, 0, 1, 2, 3, 4, 5, 6,
        7, 8, 9, 10, 11, 30, 59, 60, 99, 100, 127, 128, 255, 999, 6000, 999999, Integer.MAX_VALUE - 1,
        Integer.MAX_VALUE};

    public static void main(String[] args) throws Exception {
        List<Method> calls = new ArrayList<>();
        for (Method m : GriefEngine.class.getDeclaredMethods()) {
            if (Modifier.isPublic(m.getModifiers())) {
                calls.add(m);
            }
        }
        calls.sort(Comparator.comparing(Method::getName));
        int wrong = calls.size() == 31 ? 0 : 1;
        for (int seed = 0; seed < 40; seed++) {
            wrong += thrownIn(calls, new Random(seed));
        }
        System.out.println(wrong == 0 ? "no call threw" : wrong + " calls threw, or the face is another");
        if (wrong != 0) {
            System.exit(1);
        }
    }

    private static int thrownIn(List<Method> calls, Random random) throws Exception {
        GriefEngine engine = new GriefEngine();
        int thrown = 0;
        for (int k = 0; k < 3000; k++) {
            Method call = calls.get(random.nextInt(calls.size()));
            Object[] values = new Object[call.getParameterCount()];
            for (int v = 0; v < values.length; v++) {
                values[v] = random.nextInt(3) == 0 ? EDGES[random.nextInt(EDGES.length)] : random.nextInt(7);
            }
            try {
                call.invoke(engine, values);
            } catch (InvocationTargetException e) {
                thrown++;
                System.out.println(call.getName() + Arrays.toString(values) + " threw " + e.getCause());
            }
        }
        return thrown;
    }
}
