import java.io.IOException;
import java.lang.reflect.Constructor;
import java.lang.reflect.Field;
import java.lang.reflect.Method;
import java.lang.reflect.Modifier;
import java.nio.file.Files;
import java.nio.file.Path;
import java.util.ArrayList;
import java.util.List;
import java.util.Set;
import java.util.TreeSet;
import java.util.regex.Matcher;
import java.util.regex.Pattern;

/** The rules of LANGUAGE.md, as far as they can be seen in the text of the program and its classes. */
final class LanguageTest {
    private static final Check check = new Check();
    private static final Path PROGRAM = Path.of("src/main/java/PledgeMonitor.java");
    private static final Set<String> THROWN = Set.of("IllegalStateException", "IllegalArgumentException",
            "UnsupportedOperationException");
    private static final Set<String> LIBRARY = Set.of("Math.min", "System.arraycopy");

    private static String program = "";

    public static void main(String[] args) throws IOException {
        program = withoutWords(Files.readString(PROGRAM));
        check.each(LanguageTest::noForbiddenWord, LanguageTest::onlyTheListedLibrary, LanguageTest::exceptions,
                LanguageTest::staticFields, LanguageTest::sizes, LanguageTest::methodsAreShort);
        check.end();
    }

    /** The program without its comments and without what stands in quotes. */
    private static String withoutWords(String text) {
        return text.replaceAll("(?s)/\\*.*?\\*/", "").replaceAll("//.*", "")
                .replaceAll("'(\\\\.|[^'\\\\])'", "'.'").replaceAll("\"(\\\\.|[^\"\\\\])*\"", "\".\"");
    }

    private static void noForbiddenWord() {
        for (String word : List.of("package", "import", "try", "catch", "finally", "synchronized", "assert", "volatile",
                "native", "strictfp", "var", "protected", "hashCode", "toString", "equals", "getClass", "float", "double")) {
            check.no("the word " + word, Pattern.compile("\\b" + word + "\\b").matcher(program).find());
        }
        for (String sign : List.of("->", "::", "@", "static {", "...")) {
            check.no("the sign " + sign, program.contains(sign));
        }
    }

    private static void onlyTheListedLibrary() {
        Set<String> own = new TreeSet<>(Set.of("PledgeMonitor", "Math", "System"));
        own.addAll(THROWN);
        for (Class<?> inside : PledgeMonitor.class.getDeclaredClasses()) {
            own.add(inside.getSimpleName());
        }
        for (String name : found("\\b([A-Z]\\w*[a-z]\\w*)\\b")) {
            check.yes("the name " + name, own.contains(name));
        }
        for (String call : found("\\b([A-Z]\\w*[a-z]\\w*\\.\\w+)\\(")) {
            check.yes("the call of " + call, LIBRARY.contains(call));
        }
    }

    private static void exceptions() {
        List<String> thrown = found("\\bthrow new (\\w+)\\(\\);");
        for (String exception : thrown) {
            check.yes("throw new " + exception, THROWN.contains(exception));
        }
        check.eq("throw statements that make the exception", thrown.size(), found("\\b(throw)\\b").size());
    }

    private static void staticFields() {
        Set<Class<?>> types = Set.of(int.class, long.class, boolean.class, char.class, String.class);
        for (Class<?> type : classes()) {
            for (Field field : type.getDeclaredFields()) {
                if (Modifier.isStatic(field.getModifiers())) {
                    check.yes(field + " is a constant",
                            Modifier.isFinal(field.getModifiers()) && types.contains(field.getType()));
                }
            }
        }
    }

    private static void sizes() {
        check.yes("at most twelve classes", classes().size() <= 12);
        for (Class<?> type : classes()) {
            int fields = 0;
            for (Field field : type.getDeclaredFields()) {
                fields += Modifier.isStatic(field.getModifiers()) ? 0 : 1;
            }
            check.yes("at most twenty fields in " + type, fields <= 20);
            for (Method method : type.getDeclaredMethods()) {
                check.yes("at most seven parameters of " + method, method.getParameterCount() <= 7);
            }
            for (Constructor<?> constructor : type.getDeclaredConstructors()) {
                check.yes("at most seven parameters of " + constructor, constructor.getParameterCount() <= 7);
            }
        }
    }

    private static void methodsAreShort() {
        Pattern headings = Pattern.compile("^( +)(?:(?:public|private|static|final) )*\\w+(?:\\[\\])? (\\w+)\\([^;=]*$");
        String[] lines = program.split("\n");
        Set<String> found = new TreeSet<>();
        for (int i = 0; i < lines.length; i++) {
            Matcher heading = headings.matcher(lines[i]);
            if (heading.find()) {
                found.add(heading.group(2));
                int last = i;
                while (last < lines.length && !lines[last].equals(heading.group(1) + "}")) {
                    last++;
                }
                check.yes(heading.group(2) + " has at most sixty lines", last - i + 1 <= 60);
            }
        }
        for (Class<?> type : classes()) {
            for (Method method : type.getDeclaredMethods()) {
                check.yes(method + " is found in the text", found.contains(method.getName()));
            }
        }
    }

    private static List<Class<?>> classes() {
        List<Class<?>> classes = new ArrayList<>(List.of(PledgeMonitor.class.getDeclaredClasses()));
        classes.add(PledgeMonitor.class);
        return classes;
    }

    private static List<String> found(String pattern) {
        return Pattern.compile(pattern).matcher(program).results().map(result -> result.group(1)).toList();
    }
}
