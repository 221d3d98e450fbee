import java.io.File;
import java.io.IOException;
import java.lang.reflect.InvocationTargetException;
import java.lang.reflect.Method;
import java.lang.reflect.Modifier;
import java.net.URL;
import java.net.URLClassLoader;
import java.nio.file.Files;
import java.nio.file.Path;
import java.util.ArrayList;
import java.util.Arrays;
import java.util.Comparator;
import java.util.HashMap;
import java.util.List;
import java.util.Map;
import java.util.TreeSet;
import java.util.regex.Matcher;
import java.util.regex.Pattern;
import java.util.stream.Stream;
import javax.tools.ToolProvider;

/** README.md against the class and the tests: its examples are compiled and run, its tables are held against both. */
public final class ReadmeTest {
    private static final Due due = new Due("ReadmeTest");
    private static final Path README = Path.of("README.md");
    private static final Path TESTS = Path.of("src", "test", "java");

    private static final Pattern EXAMPLE = Pattern.compile("(?ms)^```java\\n(.*?)^```$");
    private static final Pattern CALL = Pattern.compile("codec\\.(\\w+)\\(.*\\);");
    private static final Pattern CALL_ROW = Pattern.compile("(?m)^\\| `(\\w+)\\(([^)]*)\\)` \\|.*\\|([^|]*)\\|$");
    private static final Pattern KIND_ROW = Pattern.compile("(?m)^\\| (\\d+) \\|[^|]*\\|([^|]*)\\|$");
    private static final Pattern TEST_ROW = Pattern.compile("(?m)^\\| `(\\w+Test)` \\|");
    private static final Pattern PART = Pattern.compile("`(a|b|c|d|data|secret|ranges|counts)`");
    private static final Pattern EXCEPTION = Pattern.compile("\\w+Exception");

    private static final Map<String, Method> FACE = face();

    public static void main(String[] args) throws IOException, ReflectiveOperationException {
        String readme = Files.readString(README);
        examples(readme);
        calls(readme);
        kinds(readme);
        tests(readme);
        due.end();
    }

    private static Map<String, Method> face() {
        Map<String, Method> face = new HashMap<>();
        for (Method method : WireCodec.class.getDeclaredMethods()) {
            if (Modifier.isPublic(method.getModifiers())) {
                face.put(method.getName(), method);
            }
        }
        return face;
    }

    // ---- examples

    private static void examples(String readme) throws IOException, ReflectiveOperationException {
        TreeSet<String> shown = new TreeSet<>();
        Matcher example = EXAMPLE.matcher(readme);
        while (example.find()) {
            example(example.group(1), shown);
        }
        due.holds("each call is in an example " + shown, shown.equals(new TreeSet<>(FACE.keySet())));
    }

    private static void example(String lines, TreeSet<String> shown) throws IOException, ReflectiveOperationException {
        List<String> told = new ArrayList<>();
        StringBuilder body = new StringBuilder();
        for (String line : lines.split("\n")) {
            Matcher call = CALL.matcher(line);
            // What is no call of the face is left for the compiler to refuse.
            if (!call.lookingAt() || !FACE.containsKey(call.group(1))) {
                body.append(line).append('\n');
                continue;
            }
            String comment = line.substring(call.end()).strip().replaceFirst("^// *", "");
            boolean answers = FACE.get(call.group(1)).getReturnType() != void.class;
            told.add(call.group() + " " + (answers || comment.startsWith("throws ") ? due(comment) : "nothing"));
            body.append(asked(call.group(), answers));
            shown.add(call.group(1));
        }
        List<?> got = run(body.toString());
        due.is("answers of\n" + lines, got.size(), told.size());
        for (int k = 0; k < got.size() && k < told.size(); k++) {
            due.holds("README.md: " + told.get(k) + " (the class: " + got.get(k) + ")", told.get(k).equals(got.get(k)));
        }
    }

    /** What a comment says ahead of its explanation: an exception, or an answer. */
    private static String due(String comment) {
        String first = comment.replaceFirst(":.*", "").strip();
        return first.startsWith("throws ") ? first : Long.decode(first).toString();
    }

    private static String asked(String call, boolean answers) {
        String text = "\"" + call + " \" + ";
        String made = answers ? "got.add(" + text + call.replaceFirst(";$", "") + ");"
                : call + " got.add(" + text + "\"nothing\");";
        return "try { " + made + " } catch (RuntimeException e) { got.add(" + text
                + "\"throws \" + e.getClass().getSimpleName()); }\n";
    }

    private static List<?> run(String body) throws IOException, ReflectiveOperationException {
        Path directory = Files.createTempDirectory("readme");
        try {
            Path source = directory.resolve("Example.java");
            Files.writeString(source, "public final class Example {\n"
                    + "public static java.util.List<String> run() {\n"
                    + "java.util.List<String> got = new java.util.ArrayList<>();\n"
                    + body + "return got;\n}\n}\n");
            int exit = ToolProvider.getSystemJavaCompiler().run(null, null, null, "-d", directory.toString(),
                    "-cp", System.getProperty("java.class.path"), source.toString());
            due.is("the compiler on\n" + body, exit, 0);
            return exit == 0 ? load(directory) : List.of();
        } finally {
            delete(directory);
        }
    }

    private static List<?> load(Path directory) throws IOException, ReflectiveOperationException {
        try (URLClassLoader loader = new URLClassLoader(new URL[] {directory.toUri().toURL()})) {
            return (List<?>) loader.loadClass("Example").getMethod("run").invoke(null);
        } catch (InvocationTargetException e) {
            due.holds("an example that ended with " + e.getCause(), false);
            return List.of();
        }
    }

    private static void delete(Path directory) throws IOException {
        try (Stream<Path> files = Files.walk(directory)) {
            files.sorted(Comparator.reverseOrder()).map(Path::toFile).forEach(File::delete);
        }
    }

    // ---- tables

    private static void calls(String readme) {
        TreeSet<String> names = new TreeSet<>();
        Matcher row = CALL_ROW.matcher(readme);
        while (row.find()) {
            String name = row.group(1);
            Method method = FACE.get(name);
            due.holds(name + " is a call that is told once", method != null && names.add(name));
            if (method != null) {
                int parameters = row.group(2).isEmpty() ? 0 : row.group(2).split(", ").length;
                due.is("parameters of " + name, parameters, method.getParameterCount());
                List<String> thrown = EXCEPTION.matcher(row.group(3)).results().map(found -> found.group()).toList();
                List<String> declared = Arrays.stream(method.getExceptionTypes()).map(Class::getSimpleName).toList();
                due.holds(name + " throws " + thrown + " (the class: " + declared + ")", thrown.equals(declared));
            }
        }
        due.holds("each call is told: " + names, names.equals(new TreeSet<>(FACE.keySet())));
    }

    private static void kinds(String readme) {
        TreeSet<Integer> kinds = new TreeSet<>();
        Matcher row = KIND_ROW.matcher(readme);
        while (row.find()) {
            int kind = Integer.parseInt(row.group(1));
            kinds.add(kind);
            TreeSet<String> told = new TreeSet<>();
            PART.matcher(row.group(2)).results().forEach(found -> told.add(found.group(1)));
            TreeSet<String> has = partsOf(kind);
            due.holds("kind " + kind + " has " + told + " (the class: " + has + ")", told.equals(has));
        }
        for (int kind = -1; kind <= 256; kind++) {
            due.holds("kind " + kind + " is told if it can be put", kinds.contains(kind) == canBePut(kind));
        }
    }

    /** A draft that is right for each kind and has nothing empty. */
    private static WireCodec fullDraft() {
        WireCodec x = new WireCodec();
        x.set(0, 3);
        x.set(1, 2);
        x.set(2, 1);
        x.set(3, 1);
        for (int what = 9; what <= 11; what++) {
            x.set(what, what);
        }
        Due.add(x, Due.bytes(20));
        x.span(5, 7);
        return x;
    }

    private static boolean canBePut(int kind) {
        try {
            return fullDraft().put(kind) > 0;
        } catch (IllegalArgumentException e) {
            return false;
        }
    }

    private static TreeSet<String> partsOf(int kind) {
        WireCodec x = fullDraft();
        x.put(kind);
        x.frames(0, 2);
        TreeSet<String> parts = new TreeSet<>();
        String[] names = {"a", "b", "c", "d", "", "data", "ranges", "", "", "counts", "counts", "counts"};
        for (int what = 0; what < names.length; what++) {
            if (!names[what].isEmpty() && x.frame(0, what) != 0) {
                parts.add(names[what]);
            }
        }
        try {
            x.data(0, 15, true);
            parts.add("secret");
        } catch (java.util.NoSuchElementException e) {
            // It has none.
        }
        return parts;
    }

    private static void tests(String readme) throws IOException {
        TreeSet<String> told = new TreeSet<>();
        TEST_ROW.matcher(readme).results().forEach(found -> told.add(found.group(1)));
        TreeSet<String> there = new TreeSet<>();
        try (Stream<Path> files = Files.list(TESTS)) {
            files.map(file -> file.getFileName().toString()).filter(name -> name.endsWith("Test.java"))
                    .forEach(name -> there.add(name.replace(".java", "")));
        }
        due.holds("the tests are " + told + " (there are: " + there + ")", told.equals(there));
    }
}
