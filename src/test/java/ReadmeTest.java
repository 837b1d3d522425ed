import java.io.IOException;
import java.lang.reflect.Method;
import java.lang.reflect.Modifier;
import java.net.URL;
import java.net.URLClassLoader;
import java.nio.file.Files;
import java.nio.file.Path;
import java.util.ArrayList;
import java.util.Comparator;
import java.util.List;
import java.util.Set;
import java.util.TreeSet;
import java.util.regex.MatchResult;
import java.util.regex.Matcher;
import java.util.regex.Pattern;
import java.util.stream.Collectors;
import java.util.stream.Stream;
import javax.tools.JavaCompiler;
import javax.tools.ToolProvider;

/**
 * What README.md shows of the use of the class is what the class answers: its examples are
 * compiled as they stand, and each call with an answer behind it must answer that.
 */
public final class ReadmeTest {
    private static final Path README = Path.of("README.md");
    private static final Path TESTS = Path.of("src/test/java");
    private static final Pattern EXAMPLE = Pattern.compile("```java\n(.*?)```", Pattern.DOTALL);
    private static final Pattern TOLD = Pattern.compile(
            "(linker\\.(\\w+)\\([^()]*\\)); *// (-?\\d+)(?:, ([A-Z_]+))?(?:: .+)?");
    private static final Pattern CODE = Pattern.compile("`([A-Z_]+)` \\((-?\\d+)\\)");
    private static final Pattern TEST = Pattern.compile("`src/test/java/(\\w+)\\.java`");
    private static final Set<String> CODES = Set.of("BAD_ARG", "FULL", "NONE");

    private static int told = 0;
    private static int wrong = 0;

    private static void check(boolean holds, String what) {
        if (!holds) {
            wrong++;
            System.out.println("does not hold: " + what);
        }
    }

    /** Called by the compiled examples too. */
    public static void due(String call, int got, int want) {
        told++;
        check(got == want, "README.md tells " + want + " for " + call + ", which answers " + got);
    }

    public static void main(String[] args) throws Exception {
        String readme = Files.readString(README);
        List<String> examples = found(EXAMPLE, readme).map(example -> example.group(1)).toList();
        checkWhatIsShown(examples);
        runExamples(programOf(examples));
        checkCodes(readme);
        checkListOfTests(readme);
        check(readme.contains("    .ci/run\n"), "README.md says how to run the tests");
        System.out.println(told + " answers told, " + (wrong == 0 ? "all are as due" : wrong + " things are not as due"));
        if (wrong != 0) {
            System.exit(1);
        }
    }

    private static Stream<MatchResult> found(Pattern pattern, String text) {
        return pattern.matcher(text).results();
    }

    private static void checkWhatIsShown(List<String> examples) {
        Set<String> calls = new TreeSet<>();
        Set<String> codes = new TreeSet<>();
        for (String line : linesOf(examples)) {
            Matcher call = TOLD.matcher(line);
            if (call.matches()) {
                calls.add(call.group(2));
                codes.add(String.valueOf(call.group(4)));
            } else {
                // Else a line written a little otherwise would go unchecked.
                check(!line.contains("//"), "a call with its answer: " + line);
            }
        }
        for (Method method : IncrementalLinker.class.getDeclaredMethods()) {
            boolean isShown = !Modifier.isPublic(method.getModifiers()) || calls.contains(method.getName());
            check(isShown, "README.md shows " + method.getName() + " with its answer");
        }
        check(codes.containsAll(CODES), "README.md shows each code, but seen: " + codes);
    }

    private static List<String> linesOf(List<String> examples) {
        return examples.stream().flatMap(String::lines).toList();
    }

    private static String programOf(List<String> examples) {
        StringBuilder program = new StringBuilder("public final class ReadmeExamples {\n");
        for (int i = 0; i < examples.size(); i++) {
            program.append("public static void example").append(i).append("() {\n");
            examples.get(i).lines().forEach(line -> program.append(checkedLine(line)).append('\n'));
            program.append("}\n");
        }
        return program.append("}\n").toString();
    }

    /** The line as it stands, with its answer looked at if it tells one. */
    private static String checkedLine(String line) {
        Matcher call = TOLD.matcher(line);
        if (!call.matches()) {
            return line;
        }
        String checked = dueLine(call.group(1), call.group(3));
        return call.group(4) == null ? checked : checked + dueLine("IncrementalLinker." + call.group(4), call.group(3));
    }

    private static String dueLine(String asked, String want) {
        return "ReadmeTest.due(\"" + asked + "\", " + asked + ", " + want + ");";
    }

    private static void runExamples(String program) throws Exception {
        Path directory = Files.createTempDirectory("readme");
        try {
            Path source = Files.writeString(directory.resolve("ReadmeExamples.java"), program);
            JavaCompiler compiler = ToolProvider.getSystemJavaCompiler();
            int failed = compiler.run(null, null, null, "--release", "17", "-cp",
                    System.getProperty("java.class.path"), "-d", directory.toString(), source.toString());
            check(failed == 0, "the examples of README.md can be compiled");
            if (failed == 0) {
                callExamples(directory);
            }
        } finally {
            remove(directory);
        }
    }

    private static void callExamples(Path directory) throws Exception {
        URL[] classes = {directory.toUri().toURL()};
        try (URLClassLoader loader = new URLClassLoader(classes, ReadmeTest.class.getClassLoader())) {
            for (Method example : loader.loadClass("ReadmeExamples").getDeclaredMethods()) {
                example.invoke(null);
            }
        }
    }

    private static void remove(Path directory) throws IOException {
        List<Path> inside = new ArrayList<>();
        try (Stream<Path> all = Files.walk(directory)) {
            all.sorted(Comparator.reverseOrder()).forEach(inside::add);
        }
        for (Path path : inside) {
            Files.delete(path);
        }
    }

    private static void checkCodes(String readme) throws ReflectiveOperationException {
        Set<String> seen = new TreeSet<>();
        for (MatchResult code : found(CODE, readme).toList()) {
            seen.add(code.group(1));
            int value = IncrementalLinker.class.getField(code.group(1)).getInt(null);
            due(code.group(1), value, Integer.parseInt(code.group(2)));
        }
        check(seen.equals(CODES), "README.md tells the codes, but seen: " + seen);
    }

    private static void checkListOfTests(String readme) throws IOException {
        Set<String> listed = found(TEST, readme).map(test -> test.group(1)).collect(Collectors.toCollection(TreeSet::new));
        Set<String> present = new TreeSet<>();
        try (Stream<Path> files = Files.list(TESTS)) {
            files.forEach(file -> present.add(file.getFileName().toString().replace(".java", "")));
        }
        check(listed.equals(present), "README.md lists the tests " + present + ", but seen: " + listed);
    }
}
