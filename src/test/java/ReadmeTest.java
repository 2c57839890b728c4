import java.lang.reflect.Method;
import java.lang.reflect.Modifier;
import java.net.URL;
import java.net.URLClassLoader;
import java.nio.file.Files;
import java.nio.file.Path;
import java.util.ArrayList;
import java.util.Arrays;
import java.util.List;
import java.util.TreeSet;
import java.util.regex.Matcher;
import java.util.regex.Pattern;
import java.util.stream.Stream;
import javax.tools.JavaCompiler;
import javax.tools.ToolProvider;

/** README.md: its examples are compiled and run as they stand, its tables name all that there is. */
public final class ReadmeTest {
    private static final Check C = new Check();
    private static final Pattern ANSWERED = Pattern.compile("^(?:int (\\w+) = )?(engine\\..*);\\s+// (-?\\d+): .*$");

    public static void main(String[] args) throws Exception {
        String page = Files.readString(Path.of("README.md"));
        examples(page);
        calls(page);
        classesInside(page);
        tests(page);
        C.end();
    }

    /** Called by the examples, once they are compiled. */
    public static void due(String call, long got, long want) {
        C.due("README.md: " + call, got, want);
    }

    private static void examples(String page) throws Exception {
        Matcher block = Pattern.compile("(?s)```java\\n(.*?)```").matcher(page);
        int many = 0;
        while (block.find()) {
            run("Example" + many, block.group(1));
            many++;
        }
        C.due("examples", many, 2);
    }

    private static void run(String name, String example) throws Exception {
        StringBuilder source = new StringBuilder("public final class " + name + " { public static void run() {\n");
        int answers = 0;
        for (String line : example.split("\n")) {
            Matcher answered = ANSWERED.matcher(line);
            if (!answered.matches()) {
                source.append(line).append('\n');
                continue;
            }
            answers++;
            String call = answered.group(1) == null ? answered.group(2) : answered.group(1);
            source.append(answered.group(1) == null ? "" : line + "\n");
            source.append("ReadmeTest.due(\"" + answered.group(2) + "\", " + call + ", " + answered.group(3) + ");\n");
        }
        C.due(name + ": lines that tell an answer", answers, example.split("// ").length - 1);
        compileAndRun(name, source.append("} }\n").toString());
    }

    private static void compileAndRun(String name, String source) throws Exception {
        Path out = Files.createTempDirectory("readme");
        Path file = Files.writeString(out.resolve(name + ".java"), source);
        JavaCompiler javac = ToolProvider.getSystemJavaCompiler();
        int failed = javac.run(null, null, null, "-cp", System.getProperty("java.class.path"), "-d", out.toString(),
            file.toString());
        C.due(name + ": javac", failed, 0);
        if (failed == 0) {
            try (URLClassLoader loader = new URLClassLoader(new URL[] {out.toUri().toURL()})) {
                loader.loadClass(name).getMethod("run").invoke(null);
            }
        }
        for (String made : new String[] {name + ".java", name + ".class", ""}) {
            Files.deleteIfExists(out.resolve(made));
        }
    }

    /** The words in backticks of the first column, of all rows between two headings. */
    private static List<String> firstColumn(String page, String from, String to) {
        List<String> words = new ArrayList<>();
        for (String line : page.substring(page.indexOf(from), page.indexOf(to)).split("\n")) {
            if (line.startsWith("| `")) {
                Matcher word = Pattern.compile("`([^`]+)`").matcher(line.substring(0, line.indexOf(" | ")));
                while (word.find()) {
                    words.add(word.group(1));
                }
            }
        }
        return words;
    }

    private static void same(String what, List<String> named, TreeSet<String> there) {
        C.same(what, List.copyOf(new TreeSet<>(named)), List.copyOf(there));
        C.due(what + ", each once", named.size(), there.size());
    }

    private static void calls(String page) {
        TreeSet<String> there = new TreeSet<>();
        for (Method m : GriefEngine.class.getDeclaredMethods()) {
            if (Modifier.isPublic(m.getModifiers())) {
                there.add(m.getName() + " of " + m.getParameterCount());
            }
        }
        List<String> named = new ArrayList<>();
        for (String call : firstColumn(page, "## How to use it", "## How it is built")) {
            String inside = call.substring(call.indexOf('(') + 1, call.indexOf(')'));
            int many = inside.isEmpty() ? 0 : inside.split(",").length;
            named.add(call.substring(0, call.indexOf('(')) + " of " + many);
        }
        same("README.md's calls", named, there);
    }

    private static void classesInside(String page) {
        TreeSet<String> there = new TreeSet<>();
        Arrays.stream(GriefEngine.class.getDeclaredClasses()).forEach(c -> there.add(c.getSimpleName()));
        same("README.md's classes", firstColumn(page, "## How it is built", "## How to run its tests"), there);
    }

    private static void tests(String page) throws Exception {
        TreeSet<String> there = new TreeSet<>();
        try (Stream<Path> files = Files.list(Path.of("src/test/java"))) {
            files.map(f -> f.getFileName().toString()).filter(f -> f.endsWith("Test.java"))
                .forEach(f -> there.add(f.substring(0, f.length() - ".java".length())));
        }
        same("README.md's tests", firstColumn(page + "\n## end", "## How to run its tests", "\n## end"), there);
        C.due(".ci/run may be run", Files.isExecutable(Path.of(".ci/run")) ? 1 : 0, 1);
    }
}
