import java.lang.reflect.Constructor;
import java.lang.reflect.Field;
import java.lang.reflect.Method;
import java.lang.reflect.Modifier;
import java.nio.file.Files;
import java.nio.file.Path;
import java.util.ArrayList;
import java.util.HashSet;
import java.util.List;
import java.util.Set;
import java.util.TreeSet;

/** The public face, and the rules of the language that can be read off the class and its source. */
final class FaceTest {
    private static final String FACE = "int appendText(int) int truncateText(int) int load() int errorCode() "
            + "int errorPosition() int addStation(int,int,int) int addLink(int,int,int,int,int) "
            + "int setStation(int,int,int) int setLink(int,int,int) void setRules(int,int,int) int station(int,int) "
            + "int link(int,int) int count(int) int way(int,int,int,int) int reachable() int keyStation() "
            + "int send(int,int,int) int setPriority(int,int) int takeBack(int) int message(int,int) "
            + "int copy(int,int,int) int path(int,int,int) int sends(int,int) int run(int) int stateAfter(int,int) "
            + "int hoursTo(int) double meanHours() float lossRate() int event(int,int) int write(int) int output(int) "
            + "void save(int) void restore(int)";

    private FaceTest() {
    }

    static void run(Check check, String source) {
        check.test("the face is the document's", FaceTest::face);
        check.test("the classes inside are static and not public", FaceTest::inside);
        check.test("the source keeps to the language", () -> source(source));
    }

    private static void face() {
        Set<String> due = new TreeSet<>(List.of(FACE.replaceAll("\\) ", ")\n").split("\n")));
        Set<String> got = new TreeSet<>();
        for (Method method : ReliefNet.class.getDeclaredMethods()) {
            if (!Modifier.isPrivate(method.getModifiers()) && !method.isSynthetic()) {
                Check.equal(true, Modifier.isPublic(method.getModifiers()));
                got.add(method.getReturnType() + " " + method.getName() + parameters(method));
            }
        }
        Check.equal(due, got);
        List<String> fields = new ArrayList<>();
        for (Field field : ReliefNet.class.getDeclaredFields()) {
            if (!Modifier.isPrivate(field.getModifiers())) {
                fields.add(field.toString());
            }
        }
        Check.equal(List.of("public static final int ReliefNet.NONE"), fields);
        Constructor<?>[] constructors = ReliefNet.class.getDeclaredConstructors();
        Check.equal(1, constructors.length);
        Check.equal("public ReliefNet()", constructors[0].toString());
        Check.equal(true, Modifier.isFinal(ReliefNet.class.getModifiers()));
    }

    private static String parameters(Method method) {
        StringBuilder all = new StringBuilder("(");
        for (Class<?> type : method.getParameterTypes()) {
            all.append(all.length() == 1 ? "" : ",").append(type);
        }
        return all.append(')').toString();
    }

    private static void inside() {
        Set<String> names = new HashSet<>();
        for (Method method : ReliefNet.class.getDeclaredMethods()) {
            if (Modifier.isPublic(method.getModifiers())) {
                names.add(method.getName());
            }
        }
        Class<?>[] all = ReliefNet.class.getDeclaredClasses();
        Check.equal(true, all.length <= 12);
        for (Class<?> one : all) {
            Check.equal(false, Modifier.isPublic(one.getModifiers()));
            Check.equal(true, Modifier.isStatic(one.getModifiers()));
            for (Method method : one.getDeclaredMethods()) {
                Check.equal(one.getName() + "." + method.getName() + " false",
                        one.getName() + "." + method.getName() + " " + names.contains(method.getName()));
            }
        }
    }

    /** No library but what LANGUAGE.md lists, nothing caught, no lambda; methods stay short. */
    private static void source(String path) throws Exception {
        String text = Files.readString(Path.of(path));
        for (String word : List.of("import ", "package ", "->", "::", "catch", "finally", "synchronized", "assert ",
                "Exact(", "hashCode", "toString", "instanceof", "static {")) {
            Check.equal(word + " -1", word + " " + text.indexOf(word));
        }
        int begin = 0;
        String[] lines = text.split("\n");
        for (int line = 0; line < lines.length; line++) {
            if (lines[line].length() > 120) {
                throw new AssertionError("line " + (line + 1) + " is too long");
            }
            if (lines[line].matches("( {4}| {8})(public |private |static |[a-zA-Z]+ [a-zA-Z]+[(])[^=]*")) {
                begin = line;
            }
            boolean ends = lines[line].matches(lines[begin].replaceAll("[^ ].*", "") + "\\}");
            if (ends && line - begin >= 60 && !lines[begin].contains(" class ")) {
                throw new AssertionError("the method at line " + (begin + 1) + " is too long");
            }
        }
    }
}
