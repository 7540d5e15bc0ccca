import java.io.IOException;
import java.lang.reflect.Method;
import java.lang.reflect.Modifier;
import java.net.URL;
import java.net.URLClassLoader;
import java.nio.file.Files;
import java.nio.file.Path;
import java.util.ArrayList;
import java.util.List;
import java.util.Map;
import java.util.Set;
import java.util.TreeSet;
import java.util.regex.Matcher;
import java.util.regex.Pattern;
import java.util.stream.Collectors;
import java.util.stream.Stream;
import javax.tools.JavaCompiler;
import javax.tools.ToolProvider;

/** README.md: its calls are compiled and made as they stand there, its command is the one that runs all tests. */
public final class ReadmeTest {
    private static final Path README = Path.of("README.md");
    private static final Path COMMAND = Path.of(".ci/run");
    private static final Path TESTS = Path.of("src/test/java");
    private static final Pattern BLOCK = Pattern.compile("(?ms)^```java\n(.*?)^```$");
    private static final Pattern CALL = Pattern.compile("(x\\.(\\w+)\\(.*\\)); +// (-?\\d+|[A-Z]+)(:.*)?");
    private static final Map<String, Integer> WORDS = Map.of("NONE", NumberWords.NONE,
            "UNKNOWN", NumberWords.UNKNOWN, "OUTSIDE", NumberWords.OUTSIDE,
            "NOT", NumberWords.NOT, "FULL", NumberWords.FULL);

    private static final Checks CHECKS = new Checks();

    private static final List<String> CALLS = new ArrayList<>();
    private static final List<Integer> DUE = new ArrayList<>();
    private static final Set<String> SHOWN = new TreeSet<>();

    public static void main(String[] args) throws Exception {
        String readme = Files.readString(README);
        calls(readme);
        everyCallIsShown();
        command(readme);
        everyTestIsRun(readme);
        CHECKS.end();
    }

    private static void calls(String readme) throws Exception {
        List<Integer> answers = answersOf(programOf(readme));
        CHECKS.due("how many answers", answers.size(), DUE.size());
        for (int i = 0; i < Math.min(answers.size(), DUE.size()); i++) {
            CHECKS.due("README.md: " + CALLS.get(i), answers.get(i), DUE.get(i));
        }
    }

    /** The blocks of README.md as one program: helpers as methods, all others one behind the other. */
    private static String programOf(String readme) {
        StringBuilder helpers = new StringBuilder();
        StringBuilder body = new StringBuilder();
        for (Matcher block = BLOCK.matcher(readme); block.find();) {
            if (block.group(1).startsWith("static ")) {
                helpers.append(block.group(1));
                continue;
            }
            for (String line : block.group(1).split("\n")) {
                body.append(line.startsWith("x.") ? noted(line) : line).append('\n');
            }
        }
        return "public final class ReadmeCalls {\n" + helpers
                + "public static void run(java.util.List<Integer> answers) {\n" + body + "}\n}\n";
    }

    /** A call with its answer, as a line that keeps the answer. */
    private static String noted(String line) {
        Matcher call = CALL.matcher(line);
        if (!call.matches() || !call.group(3).matches("-?\\d+") && !WORDS.containsKey(call.group(3))) {
            CHECKS.due("a call with its answer", line, "x.call(..); // answer");
            return line;
        }
        CALLS.add(call.group(1));
        SHOWN.add(call.group(2));
        DUE.add(WORDS.containsKey(call.group(3)) ? WORDS.get(call.group(3)) : Integer.valueOf(call.group(3)));
        return "answers.add(" + call.group(1) + ");";
    }

    private static List<Integer> answersOf(String program) throws Exception {
        Path place = Files.createTempDirectory("readme");
        List<Integer> answers = new ArrayList<>();
        try {
            Path source = Files.writeString(place.resolve("ReadmeCalls.java"), program);
            JavaCompiler compiler = ToolProvider.getSystemJavaCompiler();
            int failed = compiler.run(null, null, null, "-cp", System.getProperty("java.class.path"),
                    "-d", place.toString(), source.toString());
            CHECKS.due("compiling the calls of README.md", failed, 0);
            if (failed == 0) {
                try (URLClassLoader loader = new URLClassLoader(new URL[] {place.toUri().toURL()})) {
                    loader.loadClass("ReadmeCalls").getMethod("run", List.class).invoke(null, answers);
                }
            }
        } finally {
            for (Path file : listed(place)) {
                Files.delete(file);
            }
            Files.delete(place);
        }
        return answers;
    }

    private static List<Path> listed(Path place) throws IOException {
        try (Stream<Path> files = Files.list(place)) {
            return files.sorted().collect(Collectors.toList());
        }
    }

    private static void everyCallIsShown() {
        for (Method method : NumberWords.class.getDeclaredMethods()) {
            if (Modifier.isPublic(method.getModifiers())) {
                CHECKS.due("shown in README.md: " + method, SHOWN.contains(method.getName()) ? 1 : 0, 1);
            }
        }
    }

    /** Under "Tests" the first line set apart is the command. */
    private static void command(String readme) {
        int tests = readme.indexOf("\n## Tests\n");
        CHECKS.due("a heading \"Tests\"", tests >= 0 ? 1 : 0, 1);
        Matcher apart = Pattern.compile("(?m)^ {4}(\\S.*)$").matcher(readme.substring(Math.max(tests, 0)));
        CHECKS.due("the command for the tests", apart.find() ? apart.group(1) : "", COMMAND.toString());
        CHECKS.due("it can be run", Files.isExecutable(COMMAND) ? 1 : 0, 1);
    }

    /** The command runs *Test.java; so every program among the tests must have such a name. */
    private static void everyTestIsRun(String readme) throws IOException {
        String script = Files.readString(COMMAND);
        CHECKS.due("it runs the project's tests", script.contains("in " + TESTS + "/*Test.java;") ? 1 : 0, 1);
        CHECKS.due("it runs the shared tests", script.contains("in ../shared/tests/*.java;") ? 1 : 0, 1);
        for (Path file : listed(TESTS)) {
            String name = file.getFileName().toString();
            boolean isTest = name.endsWith("Test.java");
            boolean isProgram = Files.readString(file).contains("public static void main(");
            CHECKS.due("a test is a program and the other way round: " + name, isTest ? 1 : 0, isProgram ? 1 : 0);
            String told = "\n- `" + name.replace(".java", "") + "`: ";
            CHECKS.due("told in README.md: " + name, readme.contains(told) ? 1 : 0, isTest ? 1 : 0);
        }
    }
}
