import java.io.IOException;
import java.lang.reflect.Constructor;
import java.lang.reflect.Field;
import java.lang.reflect.Method;
import java.lang.reflect.Modifier;
import java.nio.file.Files;
import java.nio.file.Path;
import java.util.Set;
import java.util.TreeSet;
import java.util.regex.Matcher;
import java.util.regex.Pattern;

/** The public face of the document, and those rules of LANGUAGE.md that a look at the class can tell. */
public final class FaceTest {
    private static final String[] METHODS = {
        "int set(int, int, int, int)", "long bend(int)", "int turn(int)", "int steps()", "int step(int)", "long root(int)", "int common()",
        "int upTo(int)", "int just(int)", "long least(int)", "int remainders(int)", "int gap(int, int)",
        "long bendOf(int, int)", "long times(int, int, int)", "long product(int, int, int, int)", "int touching(int, int, int)",
        "int keep(int)", "int back(int)", "int shelf(int, int, int)", "int lay(int, int, int)", "long seen(int, int)", "int many(int)"};
    private static final String[] CONSTANTS = {"UNKNOWN", "OUTSIDE", "STATE", "OVER", "NONE", "MISSING", "INDEX", "SIZE", "SORT"};
    private static final int[] VALUES = {-1, -2, -3, -5, -9, -11, -13, -14, -15};
    private static final String[] FORBIDDEN = {
        "\\bthrow\\b", "\\btry\\b", "\\bcatch\\b", "\\bsynchronized\\b", "\\bassert\\b", "->", "::", "Exact\\b", "^import ", "^package ",
        "\\bequals\\b", "\\bhashCode\\b", "\\btoString\\b", "\\bRandom\\b", "\\bSystem\\b", "\\bThread\\b", "static \\{", "\\bObject\\b", "while \\(true"};
    private static final Due DUE = new Due();

    public static void main(String[] args) throws IOException, IllegalAccessException {
        methods();
        constants();
        constructor();
        classesInside();
        source();
        DUE.end();
    }

    private static void methods() {
        Set<String> due = new TreeSet<>(Set.of(METHODS));
        Set<String> found = new TreeSet<>();
        Set<String> publicNames = new TreeSet<>();
        for (Method method : PackedBends.class.getDeclaredMethods()) {
            if (!Modifier.isPrivate(method.getModifiers())) {
                DUE.isTrue(method + " is public", Modifier.isPublic(method.getModifiers()) && !Modifier.isStatic(method.getModifiers()));
                found.add(signature(method));
                publicNames.add(method.getName());
            }
        }
        DUE.isTrue("the methods are " + found, found.equals(due));
        for (Method method : PackedBends.class.getDeclaredMethods()) {
            DUE.isTrue(method + " has a name of its own", !Modifier.isPrivate(method.getModifiers()) || !publicNames.contains(method.getName()));
        }
        for (Class<?> inside : PackedBends.class.getDeclaredClasses()) {
            for (Method method : inside.getDeclaredMethods()) {
                DUE.isTrue(method + " has a name of its own", !publicNames.contains(method.getName()));
            }
        }
    }

    private static String signature(Method method) {
        StringBuilder text = new StringBuilder(method.getReturnType().getName()).append(' ').append(method.getName()).append('(');
        for (Class<?> type : method.getParameterTypes()) {
            text.append(text.charAt(text.length() - 1) == '(' ? "" : ", ").append(type.getName());
        }
        return text.append(')').toString();
    }

    private static void constants() throws IllegalAccessException {
        int found = 0;
        for (Field field : PackedBends.class.getDeclaredFields()) {
            boolean isStatic = Modifier.isStatic(field.getModifiers());
            DUE.isTrue(field + " is private or a constant", Modifier.isPrivate(field.getModifiers()) || isStatic);
            DUE.isTrue(field + " is final if static", !isStatic || Modifier.isFinal(field.getModifiers()));
            if (!Modifier.isPrivate(field.getModifiers())) {
                found++;
            }
        }
        DUE.is("public constants", found, CONSTANTS.length + 1);
        for (int i = 0; i < CONSTANTS.length; i++) {
            DUE.is(CONSTANTS[i], constant(CONSTANTS[i]), VALUES[i]);
        }
        DUE.is("LOST", constant("LOST"), Long.MIN_VALUE);
    }

    private static long constant(String name) throws IllegalAccessException {
        for (Field field : PackedBends.class.getFields()) {
            if (field.getName().equals(name)) {
                return ((Number) field.get(null)).longValue();
            }
        }
        return 0;
    }

    private static void constructor() {
        Constructor<?>[] all = PackedBends.class.getDeclaredConstructors();
        DUE.is("constructors", all.length, 1);
        DUE.isTrue("public, of nothing", Modifier.isPublic(all[0].getModifiers()) && all[0].getParameterCount() == 0);
        DUE.isTrue("a final class", Modifier.isFinal(PackedBends.class.getModifiers()) && Modifier.isPublic(PackedBends.class.getModifiers()));
    }

    private static void classesInside() {
        Class<?>[] inside = PackedBends.class.getDeclaredClasses();
        DUE.isTrue("some twelve classes", inside.length < 12);
        for (Class<?> one : inside) {
            int modifiers = one.getModifiers();
            DUE.isTrue(one + " is static", Modifier.isStatic(modifiers));
            DUE.isTrue(one + " is not public", !Modifier.isPublic(modifiers) && !Modifier.isProtected(modifiers));
            DUE.isTrue(one + " has some twenty fields", one.getDeclaredFields().length <= 20);
            for (Field field : one.getDeclaredFields()) {
                DUE.isTrue(field + " is final if static", !Modifier.isStatic(field.getModifiers()) || Modifier.isFinal(field.getModifiers()));
            }
        }
    }

    private static void source() throws IOException {
        String text = Files.readString(Path.of("src/main/java/PackedBends.java"));
        String code = text.replaceAll("(?s)/\\*.*?\\*/", "").replaceAll("//[^\n]*", "");
        for (String pattern : FORBIDDEN) {
            Matcher matcher = Pattern.compile(pattern, Pattern.MULTILINE).matcher(code);
            DUE.isTrue("no " + pattern, !matcher.find());
        }
        DUE.isTrue("no sign above 127", code.chars().allMatch(sign -> sign < 128));
    }
}
