import java.lang.reflect.Constructor;
import java.lang.reflect.Field;
import java.lang.reflect.Method;
import java.lang.reflect.Modifier;
import java.nio.file.Files;
import java.nio.file.Path;
import java.util.HashSet;
import java.util.Set;
import java.util.regex.Pattern;

/** The rules of LANGUAGE.md that can be seen from the source's words or from the compiled face. */
public final class LanguageTest {
    private static final String SOURCE = "src/main/java/GriefEngine.java";
    private static final int METHOD_LINES = 60;
    private static final Pattern METHOD = Pattern.compile(
        "^\\s+(?:public |private |static |final )*(?:int|long|boolean|void|Plain) \\w+\\(.*\\{$");
    private static int wrong = 0;

    public static void main(String[] args) throws Exception {
        String code = withoutComments(Files.readString(Path.of(SOURCE)));
        bannedWords(code);
        methods(code);
        face();
        classesInside();
        System.out.println(wrong == 0 ? "the language is kept to" : wrong + " rules are broken");
        if (wrong != 0) {
            System.exit(1);
        }
    }

    private static void rule(boolean kept, String broken) {
        if (!kept) {
            wrong++;
            System.out.println(broken);
        }
    }

    private static String withoutComments(String code) {
        return code.replaceAll("(?s)/\\*.*?\\*/", "").replaceAll("//[^\\n]*", "");
    }

    private static void bannedWords(String code) {
        String[] banned = {"throw", "throws", "try", "catch", "finally", "synchronized", "assert", "import", "package",
            "var", "record", "volatile", "transient", "native", "hashCode", "toString", "@", "->", "::", "Exact"};
        for (String word : banned) {
            boolean letters = Character.isLetter(word.charAt(0)) && !word.equals("Exact");
            Pattern p = Pattern.compile(letters ? "\\b" + word + "\\b" : Pattern.quote(word));
            rule(!p.matcher(code).find(), "the source has " + word);
        }
        rule(code.chars().allMatch(c -> c >= 1 && c <= 127), "the source has a sign beyond 127");
    }

    /** Methods are short, and make nothing: what a run holds is what its constructors made. */
    private static void methods(String code) {
        int depth = 0;
        int length = 0;
        for (String line : code.split("\n")) {
            if (METHOD.matcher(line).find()) {
                depth = 1;
                length = 0;
            } else if (depth > 0) {
                rule(!line.matches(".*\\bnew\\b.*"), "a method makes an object: " + line.trim());
                depth += count(line, '{') - count(line, '}');
                length++;
                rule(length != METHOD_LINES, "a method is long, at: " + line.trim());
            }
        }
    }

    private static int count(String line, char sign) {
        return (int) line.chars().filter(c -> c == sign).count();
    }

    private static void face() {
        Set<String> open = new HashSet<>();
        for (Method m : GriefEngine.class.getDeclaredMethods()) {
            boolean isOpen = Modifier.isPublic(m.getModifiers());
            rule(isOpen || Modifier.isPrivate(m.getModifiers()), "neither public nor private: " + m);
            rule(m.getParameterCount() <= 7, "more than seven parameters: " + m);
            if (isOpen) {
                open.add(m.getName());
            }
        }
        for (Method m : GriefEngine.class.getDeclaredMethods()) {
            rule(Modifier.isPublic(m.getModifiers()) || !open.contains(m.getName()), "a private one of a public name: " + m);
        }
        Set<String> constants = Set.of("NONE", "BAD", "NO", "FULL");
        for (Field f : GriefEngine.class.getDeclaredFields()) {
            boolean due = constants.contains(f.getName()) ? Modifier.isPublic(f.getModifiers())
                : Modifier.isPrivate(f.getModifiers());
            rule(due, "not the document's face: " + f);
        }
        Constructor<?>[] made = GriefEngine.class.getDeclaredConstructors();
        rule(made.length == 1 && Modifier.isPublic(made[0].getModifiers()), "not the document's constructor");
        rule(Modifier.isFinal(GriefEngine.class.getModifiers()), "the class is not final");
    }

    private static void classesInside() {
        Class<?>[] inside = GriefEngine.class.getDeclaredClasses();
        rule(inside.length <= 11, "more than twelve classes");
        for (Class<?> c : inside) {
            rule(Modifier.isStatic(c.getModifiers()) && !Modifier.isPublic(c.getModifiers()), "not static, or open: " + c);
            int fields = 0;
            for (Field f : c.getDeclaredFields()) {
                boolean isStatic = Modifier.isStatic(f.getModifiers());
                rule(!isStatic || Modifier.isFinal(f.getModifiers()), "a static field that is not final: " + f);
                fields += isStatic ? 0 : 1;
            }
            rule(fields <= 20, "more than twenty fields: " + c);
        }
    }
}
