import java.lang.reflect.Field;
import java.lang.reflect.Method;
import java.lang.reflect.Modifier;
import java.nio.file.Files;
import java.nio.file.Path;
import java.util.ArrayList;
import java.util.HashSet;
import java.util.List;
import java.util.Set;

/** The rules of the language that can be read off the class and its source. */
final class FaceTest {
    private FaceTest() {
    }

    static void run(Check check, String source) {
        check.test("the classes inside are static and not public", FaceTest::inside);
        check.test("fields, parameters and static state keep to the language", FaceTest::sizes);
        check.test("the source keeps to the language", () -> source(source));
    }

    private static void inside() {
        Set<String> names = new HashSet<>();
        for (Method method : ReliefNet.class.getDeclaredMethods()) {
            if (Modifier.isPublic(method.getModifiers())) {
                names.add(method.getName());
            }
        }
        Class<?>[] all = ReliefNet.class.getDeclaredClasses();
        Check.equal(true, all.length <= 12);
        for (Class<?> one : all) {
            Check.equal(false, Modifier.isPublic(one.getModifiers()));
            Check.equal(true, Modifier.isStatic(one.getModifiers()));
            for (Method method : one.getDeclaredMethods()) {
                Check.equal(one.getName() + "." + method.getName() + " false",
                        one.getName() + "." + method.getName() + " " + names.contains(method.getName()));
            }
        }
    }

    /** Few fields and parameters; what is static never changes; nothing inside is an exception. */
    private static void sizes() {
        List<Class<?>> all = new ArrayList<>(List.of(ReliefNet.class.getDeclaredClasses()));
        all.add(ReliefNet.class);
        for (Class<?> one : all) {
            Check.equal(false, Throwable.class.isAssignableFrom(one));
            int fields = 0;
            for (Field field : one.getDeclaredFields()) {
                boolean constant = Modifier.isStatic(field.getModifiers());
                fields += constant ? 0 : 1;
                if (constant) {
                    String name = one.getName() + "." + field.getName();
                    Check.equal(name + " true", name + " " + Modifier.isFinal(field.getModifiers()));
                    Check.equal(true, Set.of(int.class, long.class).contains(field.getType()));
                }
            }
            Check.equal(one.getName() + " true", one.getName() + " " + (fields <= 20));
            for (Method method : one.getDeclaredMethods()) {
                Check.equal(true, method.getParameterCount() <= 7);
            }
        }
    }

    /** No library but what LANGUAGE.md lists, nothing caught, no lambda; methods stay short. */
    private static void source(String path) throws Exception {
        String text = Files.readString(Path.of(path));
        for (String word : List.of("import ", "package ", "->", "::", "catch", "finally", "synchronized", "assert ",
                "Exact(", "hashCode", "toString", "instanceof", "static {")) {
            Check.equal(word + " -1", word + " " + text.indexOf(word));
        }
        int begin = 0;
        String[] lines = text.split("\n");
        for (int line = 0; line < lines.length; line++) {
            if (lines[line].length() > 120) {
                throw new AssertionError("line " + (line + 1) + " is too long");
            }
            if (lines[line].matches("( {4}| {8})(public |private |static |[a-zA-Z]+ [a-zA-Z]+[(])[^=]*")) {
                begin = line;
            }
            boolean ends = lines[line].matches(lines[begin].replaceAll("[^ ].*", "") + "\\}");
            if (ends && line - begin >= 60 && !lines[begin].contains(" class ")) {
                throw new AssertionError("the method at line " + (begin + 1) + " is too long");
            }
        }
    }
}
