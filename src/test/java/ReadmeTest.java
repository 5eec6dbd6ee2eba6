import java.io.ByteArrayOutputStream;
import java.io.File;
import java.io.IOException;
import java.io.PrintStream;
import java.lang.reflect.Method;
import java.lang.reflect.Modifier;
import java.net.URL;
import java.net.URLClassLoader;
import java.nio.charset.StandardCharsets;
import java.nio.file.Files;
import java.nio.file.Path;
import java.util.ArrayList;
import java.util.Arrays;
import java.util.List;
import java.util.TreeSet;
import java.util.regex.MatchResult;
import java.util.regex.Pattern;
import javax.tools.ToolProvider;

/** What README.md says holds. It is read where .ci/run stands: in the project's own directory. */
final class ReadmeTest {
    private static final Check check = new Check();
    private static final Path TESTS = Path.of("src/test/java");

    private static String readme = "";

    public static void main(String[] args) throws IOException {
        readme = Files.readString(Path.of("README.md"));
        check.each(ReadmeTest::examplePrintsWhatItSays, ReadmeTest::textsAreAgreements,
                ReadmeTest::callsAreAllThere, ReadmeTest::testsAreAllThere, ReadmeTest::tellsHowToRunTheTests);
        check.end();
    }

    private static void examplePrintsWhatItSays() {
        int start = readme.indexOf("```java\n") + "```java\n".length();
        String example = readme.substring(start, readme.indexOf("```", start));
        List<String> due = all("println\\(.*\\);\\s*// (\\w+)", example);
        check.eq("lines of the example that tell what they print", due.size(), all("(println)", example).size());
        check.same("what the example prints", printedBy(example).toString(), due.toString());
    }

    private static List<String> printedBy(String example) {
        PrintStream before = System.out;
        ByteArrayOutputStream printed = new ByteArrayOutputStream();
        try {
            Path directory = Files.createTempDirectory("readme");
            Path file = directory.resolve("Example.java");
            Files.writeString(file, example);
            String path = System.getProperty("java.class.path");
            int failed = ToolProvider.getSystemJavaCompiler()
                    .run(null, null, null, "-Xlint:all", "-Werror", "-cp", path, "-d", directory.toString(), file.toString());
            check.eq("compiling the example", failed, 0);
            try (URLClassLoader loader = new URLClassLoader(new URL[] {directory.toUri().toURL()})) {
                Method main = loader.loadClass("Example").getMethod("main", String[].class);
                System.setOut(new PrintStream(printed, true, StandardCharsets.UTF_8));
                main.invoke(null, (Object) new String[0]);
            }
            for (File made : directory.toFile().listFiles()) {
                Files.delete(made.toPath());
            }
            Files.delete(directory);
        } catch (IOException | ReflectiveOperationException e) {
            return List.of("the example can't be run: " + e);
        } finally {
            System.setOut(before);
        }
        return List.of(printed.toString(StandardCharsets.UTF_8).split("\\R"));
    }

    private static void textsAreAgreements() {
        List<String> triggers = all("(?m)^\\| `(.*?)` \\| trigger: ", readme);
        List<String> conditions = all("(?m)^\\| `(.*?)` \\| condition: ", readme);
        List<String> actions = all("(?m)^\\| `(.*?)` \\| action: ", readme);
        check.eq("triggers told", triggers.size(), 5);
        check.eq("conditions told", conditions.size(), 1);
        check.eq("actions told", actions.size(), 5);
        for (String trigger : triggers) {
            check.fine(trigger + ">!Aa1", 1);
            for (String action : actions) {
                check.fine("s>!Aa1;" + trigger + conditions.get(0) + ">" + action, 2);
            }
        }
    }

    private static void callsAreAllThere() {
        List<String> due = new ArrayList<>();
        for (Method method : PledgeMonitor.class.getDeclaredMethods()) {
            if (Modifier.isPublic(method.getModifiers())) {
                due.add(method.getName() + " " + method.getParameterCount());
                checkExceptions(method);
            }
        }
        List<String> told = new ArrayList<>();
        for (String call : all("(?m)^\\| `(\\w+\\(.*?\\))` ", readme)) {
            String parameters = call.substring(call.indexOf('(') + 1, call.length() - 1);
            told.add(call.substring(0, call.indexOf('(')) + " " + (parameters.isEmpty() ? 0 : parameters.split(",").length));
        }
        check.same("calls told", new TreeSet<>(told).toString(), new TreeSet<>(due).toString());
        check.eq("calls told once", told.size(), due.size());
    }

    private static void checkExceptions(Method method) {
        List<String> thrown = all("(?m)^\\| `" + method.getName() + "\\(.*\\| (.*)\\|$", readme);
        String due = String.join(" ", Arrays.stream(method.getExceptionTypes()).map(Class::getSimpleName).toList());
        String told = thrown.isEmpty() ? "" : thrown.get(0);
        if (told.contains("as `course`")) {
            told = all("(?m)^\\| `course\\(.*\\| (.*)\\|$", readme).get(0);
        }
        check.same("what " + method.getName() + " throws", String.join(" ", all("(\\w+Exception)", told)), due);
    }

    private static void testsAreAllThere() {
        List<String> due = Arrays.stream(TESTS.toFile().list()).filter(name -> name.endsWith("Test.java"))
                .map(name -> name.replace(".java", "")).toList();
        List<String> told = all("(?m)^\\| (\\w+Test) \\|", readme);
        check.same("tests told", new TreeSet<>(told).toString(), new TreeSet<>(due).toString());
        check.eq("tests told once", told.size(), due.size());
    }

    private static void tellsHowToRunTheTests() {
        check.yes("README.md names .ci/run", readme.contains("```sh\n.ci/run\n```"));
        check.yes(".ci/run can be run", Files.isExecutable(Path.of(".ci/run")));
    }

    /** What the one group of a pattern is, each time it is found. */
    private static List<String> all(String pattern, String text) {
        return Pattern.compile(pattern).matcher(text).results().map((MatchResult found) -> found.group(1)).toList();
    }
}
