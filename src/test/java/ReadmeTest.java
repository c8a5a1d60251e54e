import java.io.File;
import java.io.IOException;
import java.lang.reflect.InvocationTargetException;
import java.net.MalformedURLException;
import java.net.URL;
import java.net.URLClassLoader;
import java.nio.file.Files;
import java.nio.file.Path;
import java.util.ArrayList;
import java.util.Comparator;
import java.util.LinkedHashMap;
import java.util.List;
import java.util.Map;
import java.util.Set;
import java.util.TreeSet;
import java.util.regex.Matcher;
import java.util.regex.Pattern;
import java.util.stream.Stream;
import javax.tools.JavaCompiler;
import javax.tools.ToolProvider;

/** What README.md says: its examples compile and answer as it tells; its rows are those of the class. */
public final class ReadmeTest {
    private static final Path SOURCE = Path.of("src/main/java/GrowingText.java");
    private static final Path TESTS = Path.of("src/test/java");
    /** As the document's promises order them, each where it is found. */
    private static final List<String> ANSWERS = List.of("BAD", "NULL", "PLACE", "NOT", "FULL", "NONE", "MUCH");
    private static final Pattern BLOCK = Pattern.compile("```java\n(.*?)```", Pattern.DOTALL);
    private static final Pattern TOLD = Pattern.compile("(\\w+\\.\\w+\\(.*\\));\\s*// (-?\\d+|[A-Z]+|\"[^\"]*\")(:.*)?");
    private static int wrong = 0;

    private static void check(boolean holds, String what) {
        if (holds) return;
        wrong++;
        System.out.println("README.md: " + what);
    }

    public static void main(String[] args) throws Exception {
        String readme = Files.readString(Path.of("README.md"));
        checkConstants(readme);
        checkCalls(readme);
        checkTestNames(readme);
        Path folder = Files.createTempDirectory("readme");
        try {
            checkExamples(readme, folder);
        } finally {
            remove(folder);
        }
        System.out.println("ReadmeTest: " + (wrong == 0 ? "all that it says is so" : wrong + " faults"));
        if (wrong != 0) System.exit(1);
    }

    private static void remove(Path folder) throws IOException {
        try (Stream<Path> all = Files.walk(folder)) {
            for (Path p : all.sorted(Comparator.reverseOrder()).toList()) Files.delete(p);
        }
    }

    private static List<String> findAll(String pattern, String text) {
        List<String> found = new ArrayList<>();
        Matcher m = Pattern.compile(pattern).matcher(text);
        while (m.find()) found.add(m.group(1));
        return found;
    }

    private static void checkConstants(String readme) throws ReflectiveOperationException {
        List<String> rows = findAll("(?m)^\\| `GrowingText\\.([A-Z]+)` \\|", readme);
        check(rows.size() == ANSWERS.size() && rows.containsAll(ANSWERS), "the answers below 0 are " + rows);
        for (String name : ANSWERS) {
            String row = "| `GrowingText." + name + "` | " + GrowingText.class.getField(name).getInt(null) + " |";
            check(readme.contains(row), "there is no row " + row);
        }
    }

    /** Each call of the class has one row, with the answers below 0 that it can give, and no others. */
    private static void checkCalls(String readme) throws IOException {
        List<String> calls = new ArrayList<>();
        for (String call : findAll("public int (\\w+\\([^)]*\\))", Files.readString(SOURCE))) calls.add(call.replace("int ", ""));
        check(calls.size() == Calls.NAMES.length, "the class has the calls " + calls);
        check(findAll("(?m)^\\| `(\\w+\\([^`]*\\))` \\|", readme).equals(calls), "the rows are not those of " + calls);
        Map<String, Set<String>> answers = answersBelowZero();
        for (String call : calls) {
            String name = call.substring(0, call.indexOf('('));
            Matcher row = Pattern.compile("(?m)^\\| `" + Pattern.quote(call) + "` \\|[^|]*\\|([^|]*)\\|$").matcher(readme);
            if (!row.find()) continue;
            List<String> told = findAll("`([A-Z]+)`", row.group(1));
            check(new TreeSet<>(told).equals(answers.get(name)), call + " answers " + answers.get(name) + ", not " + told);
            List<String> inOrder = new ArrayList<>(told);
            inOrder.sort(Comparator.comparing(ANSWERS::indexOf));
            check(told.equals(inOrder), call + " tells its answers in the order " + told);
        }
    }

    private static Map<String, Set<String>> answersBelowZero() {
        Map<String, Set<String>> found = new LinkedHashMap<>();
        for (String name : Calls.NAMES) found.put(name, new TreeSet<>());
        Map<Integer, String> names = Map.of(-1, "BAD", -2, "NOT", -3, "FULL", -4, "NONE", -11, "NULL", -12, "PLACE", -13, "MUCH");
        for (String way : Arguments.WAYS) {
            PlainText plain = new PlainText();
            for (Calls.Call call : Calls.parse(way)) Calls.make(plain, call);
            Arguments.each(plain, call -> {
                int answer = Calls.make(plain.copy(), call);
                if (answer < 0) found.get(call.name()).add(names.getOrDefault(answer, String.valueOf(answer)));
            });
        }
        return found;
    }

    private static void checkTestNames(String readme) throws IOException {
        Set<String> there = new TreeSet<>();
        try (Stream<Path> files = Files.list(TESTS)) {
            for (Path p : files.toList()) {
                String name = p.getFileName().toString();
                if (name.endsWith("Test.java")) there.add(name.replace(".java", ""));
            }
        }
        check(new TreeSet<>(findAll("`(\\w+Test)`", readme)).equals(there), "the tests are " + there);
    }

    /**
     * Each example is compiled as it stands, and once more for the class and for the plain one with each answer that
     * it tells compared; an example of a test is run as one.
     */
    private static void checkExamples(String readme, Path folder) throws Exception {
        List<String> mains = new ArrayList<>();
        Matcher blocks = BLOCK.matcher(readme);
        int number = 0;
        while (blocks.find()) {
            number++;
            String block = blocks.group(1);
            if (block.startsWith("on(")) {
                write(folder, "ReadmeBoundary" + number, " extends Boundaries", block + "finish(\"README.md\");\n");
                mains.add("ReadmeBoundary" + number);
                continue;
            }
            write(folder, "ReadmeExample" + number, "", block);
            String answers = withAnswers(block);
            write(folder, "ReadmeAnswers" + number, "", answers);
            write(folder, "ReadmePlain" + number, "", answers.replace("GrowingText", "PlainText"));
            mains.add("ReadmeAnswers" + number);
            mains.add("ReadmePlain" + number);
        }
        check(number >= 5, "there are " + number + " examples");
        if (compiles(folder)) runAll(mains, folder);
    }

    private static String withAnswers(String block) {
        StringBuilder body = new StringBuilder();
        for (String line : block.split("\n")) {
            Matcher told = TOLD.matcher(line);
            boolean answered = told.matches();
            check(answered || !line.matches("\\w+\\.\\w+\\(.*"), "no answer is told behind " + line);
            if (!answered) {
                body.append(line).append('\n');
                continue;
            }
            String want = ANSWERS.contains(told.group(2)) ? "GrowingText." + told.group(2) : told.group(2);
            body.append("ReadmeTest.due(").append(literal(told.group(1))).append(", ").append(told.group(1)).append(", ")
                .append(want).append(");\n");
        }
        return body.toString();
    }

    private static String literal(String text) {
        return '"' + text.replace("\\", "\\\\").replace("\"", "\\\"") + '"';
    }

    /** Called by the examples, whose class loader has a ReadmeTest of its own. */
    static void due(String call, Object got, Object want) {
        if (!got.equals(want)) throw new IllegalStateException(call + " answers " + got + ", not " + want);
    }

    private static void write(Path folder, String name, String parent, String body) throws IOException {
        Files.writeString(folder.resolve(name + ".java"), "public final class " + name + parent + " {\n"
            + "public static void main(String[] args) {\n" + body + "}\n}\n");
    }

    private static boolean compiles(Path folder) throws IOException {
        JavaCompiler compiler = ToolProvider.getSystemJavaCompiler();
        List<String> words = new ArrayList<>(List.of("-cp", System.getProperty("java.class.path"), "-d", folder.toString()));
        try (Stream<Path> files = Files.list(folder)) {
            for (Path p : files.toList()) words.add(p.toString());
        }
        boolean holds = compiler != null && compiler.run(null, null, null, words.toArray(new String[0])) == 0;
        check(holds, "an example does not compile");
        return holds;
    }

    private static void runAll(List<String> mains, Path folder) throws Exception {
        List<URL> places = new ArrayList<>(List.of(urlOf(folder)));
        for (String place : System.getProperty("java.class.path").split(File.pathSeparator)) places.add(urlOf(Path.of(place)));
        URL[] all = places.toArray(new URL[0]);
        try (URLClassLoader loader = new URLClassLoader(all, ClassLoader.getPlatformClassLoader())) {
            for (String name : mains) {
                try {
                    loader.loadClass(name).getMethod("main", String[].class).invoke(null, (Object) new String[0]);
                } catch (InvocationTargetException thrown) {
                    check(false, name + ": " + thrown.getCause().getMessage());
                }
            }
        }
    }

    private static URL urlOf(Path place) throws MalformedURLException {
        return place.toUri().toURL();
    }
}
