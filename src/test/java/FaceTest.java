import java.lang.reflect.Constructor;
import java.lang.reflect.Field;
import java.lang.reflect.Method;
import java.lang.reflect.Modifier;
import java.util.Arrays;
import java.util.TreeSet;
import java.util.regex.Matcher;
import java.util.regex.Pattern;
import java.util.stream.Collectors;

/** The public face of the class, against the one of the document: all of it, and no more. */
public final class FaceTest {
    /** As it stands in DOC.md under "The public face". */
    private static final String DOCUMENT = """
        public final class GriefEngine {
            public static final int NONE = -1, BAD = -2, NO = -3, FULL = -4;
            public GriefEngine();
            public int rank();
            public int driver(int kind, int grief);
            public int type(int c);
            public int clear();
            public int read();
            public int days(int n, int c);
            public int day(int i, int c);
            public int undo();
            public int of(int i, int what);
            public int today(int i, int c);
            public int then(int i, int m, int c, int what);
            public int over(int i);
            public int most(int i, int n, int k);
            public int soonest(int i, int x);
            public int home(int i, int n, int what);
            public int tell(int i);
            public int note(int i, int g, int s, int x, int c, int y);
            public int gone(int i, int n, int x);
            public int forget(int what);
            public int is(int i);
            public int look(int i);
            public int had(int i, int what);
            public int fares(int a, int b);
            public int starts(int i, int n, int c);
            public int years(int seed, int n);
            public long part(int what);
            public int image(int i);
            public int from(int i);
            public int status(int what);
            public int count(int what);
            public long digest();
        }
        """;

    public static void main(String[] args) throws Exception {
        TreeSet<String> due = faceOf(DOCUMENT);
        TreeSet<String> got = faceOf(GriefEngine.class);
        int wrong = due.size() == 4 + 1 + 31 ? 0 : 1;
        for (String line : due) {
            wrong += tells(!got.contains(line), "the class has no " + line);
        }
        for (String line : got) {
            wrong += tells(!due.contains(line), "the document has no " + line);
        }
        System.out.println(wrong == 0 ? "the face is the document's" : wrong + " lines of the face are not as due");
        if (wrong != 0) {
            System.exit(1);
        }
    }

    private static int tells(boolean isWrong, String line) {
        if (isWrong) {
            System.out.println(line);
        }
        return isWrong ? 1 : 0;
    }

    private static TreeSet<String> faceOf(String document) {
        TreeSet<String> face = new TreeSet<>();
        Matcher constants = Pattern.compile("public static final int ([^;]*);").matcher(document);
        while (constants.find()) {
            for (String one : constants.group(1).split(",")) {
                face.add("int " + one.trim());
            }
        }
        Matcher calls = Pattern.compile("public ((?:int |long )?\\w+)\\(([^)]*)\\);").matcher(document);
        while (calls.find()) {
            face.add(calls.group(1) + "(" + calls.group(2).replaceAll("(\\w+) \\w+", "$1") + ")");
        }
        return face;
    }

    private static TreeSet<String> faceOf(Class<?> built) throws IllegalAccessException {
        TreeSet<String> face = new TreeSet<>();
        for (Field f : built.getDeclaredFields()) {
            if (!Modifier.isPrivate(f.getModifiers())) {
                boolean isConstant = Modifier.toString(f.getModifiers()).equals("public static final");
                face.add(isConstant ? f.getType() + " " + f.getName() + " = " + f.getInt(null) : f.toString());
            }
        }
        for (Method m : built.getDeclaredMethods()) {
            if (!Modifier.isPrivate(m.getModifiers())) {
                boolean isPlain = Modifier.toString(m.getModifiers()).equals("public");
                face.add(isPlain ? m.getReturnType() + " " + m.getName() + typesOf(m.getParameterTypes()) : m.toString());
            }
        }
        for (Constructor<?> c : built.getDeclaredConstructors()) {
            face.add(built.getSimpleName() + typesOf(c.getParameterTypes()));
        }
        return face;
    }

    private static String typesOf(Class<?>[] types) {
        return Arrays.stream(types).map(Class::toString).collect(Collectors.joining(", ", "(", ")"));
    }
}
