import java.io.IOException;
import java.lang.reflect.Field;
import java.lang.reflect.InvocationTargetException;
import java.lang.reflect.Method;
import java.lang.reflect.Modifier;
import java.nio.file.Files;
import java.nio.file.Path;
import java.util.List;
import java.util.Set;
import java.util.TreeSet;
import java.util.regex.Matcher;
import java.util.regex.Pattern;
import java.util.stream.Stream;

/** What README.md shows is what the class answers, and it leaves out no call, no constant and no test. */
public final class ReadmeTest {
    private static final String NEW_OBJECT = "PackedBends x = new PackedBends();";
    private static final Pattern CALL = Pattern.compile("x\\.(\\w+)\\(([-\\d, ]*)\\); +// ([-\\w]+)(:.*)?");
    private static final Pattern CALL_ROW = Pattern.compile("\\| `(\\w+)\\(([\\w, ]*)\\)` \\|.*");
    private static final Pattern CONSTANT_ROW = Pattern.compile("\\| `([A-Z]+)` \\| (-\\d+) \\|.*");
    private static final Pattern TEST_ROW = Pattern.compile("\\| `(\\w+Test)` \\|.*");
    private static final Due DUE = new Due();

    public static void main(String[] args) throws IOException, ReflectiveOperationException {
        List<String> lines = Files.readAllLines(Path.of("README.md"));
        examples(lines);
        callRows(lines);
        constantRows(lines);
        testRows(lines);
        DUE.end();
    }

    private static void examples(List<String> lines) throws ReflectiveOperationException {
        PackedBends x = null;
        boolean isCode = false;
        Set<String> shown = new TreeSet<>();
        for (String line : lines) {
            if (line.startsWith("```")) {
                isCode = line.equals("```java");
                x = null;
            } else if (isCode && line.equals(NEW_OBJECT)) {
                x = new PackedBends();
            } else if (isCode) {
                shown.add(example(x, line));
            }
        }
        for (Method method : publicMethods()) {
            DUE.isTrue("README.md shows an answer of " + method.getName(), shown.contains(method.getName()));
        }
    }

    /** Makes the call of a line and compares what is told behind it; answers the call's name. */
    private static String example(PackedBends x, String line) throws IllegalAccessException, InvocationTargetException {
        Matcher matcher = CALL.matcher(line);
        boolean isCall = matcher.matches() && x != null;
        DUE.isTrue("README.md shows a call of x and its answer: " + line, isCall);
        if (!isCall) {
            return "";
        }
        Object[] numbers = Stream.of(matcher.group(2).split(", ")).filter(text -> !text.isEmpty()).map(Integer::valueOf).toArray();
        Method method = methodOf(matcher.group(1), numbers.length);
        DUE.isTrue("README.md shows a call that there is: " + line, method != null);
        if (method != null) {
            DUE.is("README.md: " + line, ((Number) method.invoke(x, numbers)).longValue(), valueOf(matcher.group(3), method));
        }
        return matcher.group(1);
    }

    /** A constant below nothing is to be told by its name, where it is no number but a refusal. */
    private static long valueOf(String told, Method method) throws IllegalAccessException {
        for (Field field : PackedBends.class.getFields()) {
            if (field.getName().equals(told)) {
                DUE.isTrue(told + " fits what " + method + " answers", field.getType() == method.getReturnType());
                return ((Number) field.get(null)).longValue();
            }
        }
        DUE.isTrue(told + " is a number", told.matches("-?\\d+"));
        return told.matches("-?\\d+") ? Long.parseLong(told) : 0;
    }

    private static void callRows(List<String> lines) {
        Set<String> due = new TreeSet<>();
        for (Method method : publicMethods()) {
            due.add(method.getName() + " of " + method.getParameterCount());
        }
        Set<String> told = new TreeSet<>();
        for (String line : lines) {
            Matcher matcher = CALL_ROW.matcher(line);
            if (matcher.matches()) {
                String names = matcher.group(2);
                told.add(matcher.group(1) + " of " + (names.isEmpty() ? 0 : names.split(", ").length));
            }
        }
        DUE.isTrue("README.md has a row for each call: " + told, told.equals(due));
    }

    private static void constantRows(List<String> lines) throws IllegalAccessException {
        Set<String> due = new TreeSet<>();
        for (Field field : PackedBends.class.getFields()) {
            due.add(field.getName() + " is " + field.get(null));
        }
        // Told below the table, for it is no refusal.
        due.remove("NONE is " + PackedBends.NONE);
        DUE.isTrue("README.md tells NONE", lines.stream().anyMatch(line -> line.startsWith("`NONE` is " + PackedBends.NONE + " ")));
        Set<String> told = new TreeSet<>();
        for (String line : lines) {
            Matcher matcher = CONSTANT_ROW.matcher(line);
            if (matcher.matches()) {
                told.add(matcher.group(1) + " is " + matcher.group(2));
            }
        }
        DUE.isTrue("README.md has a row for each constant: " + told, told.equals(due));
    }

    private static void testRows(List<String> lines) throws IOException {
        Set<String> due = new TreeSet<>();
        try (Stream<Path> files = Files.list(Path.of("src/test/java"))) {
            files.map(path -> path.getFileName().toString()).filter(name -> name.endsWith("Test.java"))
                .forEach(name -> due.add(name.substring(0, name.length() - ".java".length())));
        }
        Set<String> told = new TreeSet<>();
        for (String line : lines) {
            Matcher matcher = TEST_ROW.matcher(line);
            if (matcher.matches()) {
                told.add(matcher.group(1));
            }
        }
        DUE.isTrue("README.md has a row for each test: " + told, told.equals(due));
    }

    private static List<Method> publicMethods() {
        return Stream.of(PackedBends.class.getDeclaredMethods()).filter(method -> Modifier.isPublic(method.getModifiers())).toList();
    }

    private static Method methodOf(String name, int numbers) {
        for (Method method : publicMethods()) {
            if (method.getName().equals(name) && method.getParameterCount() == numbers) {
                return method;
            }
        }
        return null;
    }
}
