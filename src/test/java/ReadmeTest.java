import java.io.IOException;
import java.lang.reflect.Field;
import java.lang.reflect.Method;
import java.lang.reflect.Modifier;
import java.nio.file.DirectoryStream;
import java.nio.file.Files;
import java.nio.file.Path;
import java.util.Set;
import java.util.TreeSet;
import java.util.regex.Matcher;
import java.util.regex.Pattern;

/** README.md says what the class does, and says it rightly. Run from the project's root. */
public final class ReadmeTest {
    private static final Pattern EXAMPLE = Pattern.compile("x\\.(\\w+)\\(([-\\d, ]*)\\); +// ([-\\w]+)(:.*)?");
    private static final Pattern METHOD = Pattern.compile("\\| `((?:int|boolean) \\w+\\([\\w, ]*\\))` \\|.*");
    private static final Pattern CONSTANT = Pattern.compile("\\| `([A-Z]+)` \\| (-?\\d+) \\|.*");
    private static final Pattern TEST = Pattern.compile("\\| `(\\w+Test)` \\|.*");
    private static final Checks CHECKS = new Checks();

    private ReadmeTest() {
    }

    public static void main(String[] args) throws IOException, ReflectiveOperationException {
        String text = Files.readString(Path.of("README.md"));
        example(text);
        methods(text);
        constants(text);
        tests(text);
        CHECKS.due("it says how to run the tests", text.contains("    .ci/run\n"), true);
        CHECKS.end();
    }

    private static void example(String text) throws ReflectiveOperationException {
        CollectorSuite suite = new CollectorSuite();
        int calls = 0;
        for (String line : text.lines().filter(line -> line.startsWith("x.")).toList()) {
            Matcher found = EXAMPLE.matcher(line);
            CHECKS.due("a call with its answer: " + line, found.matches(), true);
            if (found.matches()) {
                String got = answer(suite, found.group(1), found.group(2));
                CHECKS.due(line + " answered " + got, got.equals(due(found.group(3))), true);
                calls++;
            }
        }
        CHECKS.due("the example makes calls", calls > 0, true);
    }

    private static String answer(CollectorSuite suite, String name, String list)
            throws ReflectiveOperationException {
        String[] parts = list.isEmpty() ? new String[0] : list.split(", ");
        Object[] numbers = new Object[parts.length];
        Class<?>[] types = new Class<?>[parts.length];
        for (int at = 0; at < parts.length; at++) {
            numbers[at] = Integer.valueOf(parts[at]);
            types[at] = int.class;
        }
        return String.valueOf(CollectorSuite.class.getMethod(name, types).invoke(suite, numbers));
    }

    private static String due(String told) throws ReflectiveOperationException {
        boolean isConstant = told.matches("[A-Z]+");
        return isConstant ? String.valueOf(CollectorSuite.class.getField(told).getInt(null)) : told;
    }

    private static void methods(String text) {
        Set<String> told = new TreeSet<>();
        for (String line : text.lines().toList()) {
            Matcher found = METHOD.matcher(line);
            if (found.matches()) {
                told.add(found.group(1).replaceAll("int \\w+([,)])", "int$1"));
            }
        }
        Set<String> there = new TreeSet<>();
        for (Method method : CollectorSuite.class.getDeclaredMethods()) {
            if (Modifier.isPublic(method.getModifiers())) {
                String list = "int, ".repeat(method.getParameterCount()).replaceAll(", $", "");
                there.add(method.getReturnType() + " " + method.getName() + "(" + list + ")");
            }
        }
        same("methods", told, there);
    }

    private static void constants(String text) throws IllegalAccessException {
        Set<String> told = new TreeSet<>();
        for (String line : text.lines().toList()) {
            Matcher found = CONSTANT.matcher(line);
            if (found.matches()) {
                told.add(found.group(1) + " " + found.group(2));
            }
        }
        Set<String> there = new TreeSet<>();
        for (Field field : CollectorSuite.class.getFields()) {
            there.add(field.getName() + " " + field.getInt(null));
        }
        same("constants", told, there);
    }

    private static void tests(String text) throws IOException {
        Set<String> told = new TreeSet<>();
        for (String line : text.lines().toList()) {
            Matcher found = TEST.matcher(line);
            if (found.matches()) {
                told.add(found.group(1));
            }
        }
        Set<String> there = new TreeSet<>();
        try (DirectoryStream<Path> files = Files.newDirectoryStream(Path.of("src/test/java"), "*Test.java")) {
            for (Path file : files) {
                there.add(file.getFileName().toString().replace(".java", ""));
            }
        }
        same("tests", told, there);
    }

    private static void same(String what, Set<String> told, Set<String> there) {
        CHECKS.due("the " + what + " that are told, " + told + ", are those that are there, " + there,
                told.equals(there), true);
        CHECKS.due("there are " + what, there.isEmpty(), false);
    }
}
