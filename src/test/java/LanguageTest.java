import java.io.IOException;
import java.lang.reflect.Constructor;
import java.lang.reflect.Executable;
import java.lang.reflect.Field;
import java.lang.reflect.Member;
import java.lang.reflect.Method;
import java.lang.reflect.Modifier;
import java.nio.file.Files;
import java.nio.file.Path;
import java.util.Arrays;
import java.util.List;
import java.util.Set;
import java.util.TreeSet;
import java.util.regex.Matcher;
import java.util.regex.Pattern;
import java.util.stream.Collectors;

/** The rules of LANGUAGE.md that can be seen from outside or from single words of the source. */
public final class LanguageTest {
    private static final Path SOURCE = Path.of("src/main/java/NetworkCoordinates.java");
    private static final Class<?> FACE = NetworkCoordinates.class;
    private static final Set<String> METHODS = new TreeSet<>(List.of(
            "reset 1", "setRtt 3", "rtt 2", "setLie 2", "setGains 2", "setMaxStep 1", "place 4",
            "x 1", "y 1", "height 1", "error 1", "predict 2", "measure 2", "run 1",
            "roundCounter 0", "meanError 0", "worstPair 0", "relativeError 2", "nearest 2",
            "relay 2", "triangles 0", "violations 0", "worstExcess 0", "suspect 0", "move 2",
            "save 1", "restore 1"));
    private static final Set<String> CONSTANTS = new TreeSet<>(List.of(
            "NO_SUCH_NODE", "OUT_OF_RANGE", "SAME_NODE", "UNKNOWN_RTT", "NONE", "NOT_SAVED"));
    private static final List<String> BANNED = List.of("\\bthrows?\\b", "\\btry\\b", "\\bcatch\\b",
            "\\bfinally\\b", "\\bsynchronized\\b", "\\bassert\\b", "\\bpackage\\b", "\\bimport\\b",
            "\\bnative\\b", "\\bvar\\b", "->", "::", "\\bExact\\b", "\\w+Exact\\b", "\\bequals\\b",
            "\\bhashCode\\b", "\\btoString\\b", "\\bdouble\\b", "\\bfloat\\b", "\\bsqrt\\b",
            "\\brandom\\b", "\\bnanoTime\\b", "\\bcurrentTimeMillis\\b", "\\bThread\\b");
    private static final Checks CHECKS = new Checks();

    public static void main(String[] args) throws IOException {
        face();
        classesInside();
        everyClass(FACE);
        words(withoutComments(Files.readString(SOURCE)));
        CHECKS.end();
    }

    private static void face() {
        CHECKS.holds("the class is public and final",
                Modifier.isPublic(FACE.getModifiers()) && Modifier.isFinal(FACE.getModifiers()));
        CHECKS.holds("the public methods are the document's",
                METHODS.equals(names(FACE.getDeclaredMethods(), true)));
        Set<String> fields = new TreeSet<>();
        for (Field field : FACE.getDeclaredFields()) {
            if (!Modifier.isPrivate(field.getModifiers())) {
                fields.add(field.getName());
                CHECKS.due(field + " is public static final", 25, field.getModifiers());
                CHECKS.holds(field + " is an int", field.getType() == int.class);
            }
        }
        CHECKS.holds("the public constants are the document's", CONSTANTS.equals(fields));
        Constructor<?>[] constructors = FACE.getDeclaredConstructors();
        CHECKS.holds("one public constructor without arguments", constructors.length == 1
                && Modifier.isPublic(constructors[0].getModifiers())
                && constructors[0].getParameterCount() == 0);
        CHECKS.holds("nothing extended", FACE.getSuperclass() == Object.class
                && FACE.getInterfaces().length == 0);
        for (Method method : FACE.getDeclaredMethods()) {
            boolean isPrivate = Modifier.isPrivate(method.getModifiers());
            CHECKS.holds(method + " is public or private",
                    isPrivate || Modifier.isPublic(method.getModifiers()));
            CHECKS.holds(method + " bears no public name", !isPrivate || METHODS.stream()
                    .noneMatch(face -> face.startsWith(method.getName() + " ")));
        }
    }

    private static Set<String> names(Method[] methods, boolean isPublic) {
        return Arrays.stream(methods)
                .filter(method -> Modifier.isPublic(method.getModifiers()) == isPublic)
                .filter(method -> method.getReturnType() == int.class)
                .map(method -> method.getName() + " " + method.getParameterCount())
                .collect(Collectors.toCollection(TreeSet::new));
    }

    private static void classesInside() {
        CHECKS.holds("at most twelve classes", FACE.getDeclaredClasses().length < 12);
        for (Class<?> inside : FACE.getDeclaredClasses()) {
            CHECKS.holds(inside + " is static", Modifier.isStatic(inside.getModifiers()));
            CHECKS.holds(inside + " is not public", !Modifier.isPublic(inside.getModifiers())
                    && !Modifier.isProtected(inside.getModifiers()));
            everyClass(inside);
        }
    }

    private static void everyClass(Class<?> one) {
        int fields = 0;
        for (Field field : one.getDeclaredFields()) {
            boolean isStatic = Modifier.isStatic(field.getModifiers());
            fields += isStatic ? 0 : 1;
            CHECKS.holds(field + " is final if it is static",
                    !isStatic || Modifier.isFinal(field.getModifiers()));
        }
        CHECKS.holds(one + " has at most twenty fields", fields <= 20);
        for (Executable method : one.getDeclaredMethods()) {
            CHECKS.holds(method + " takes at most seven parameters", method.getParameterCount() <= 7);
            CHECKS.holds(nameOf(method) + " throws nothing", method.getExceptionTypes().length == 0);
        }
    }

    private static String nameOf(Member member) {
        return member.getDeclaringClass().getName() + "." + member.getName();
    }

    private static String withoutComments(String source) {
        return Pattern.compile("/\\*.*?\\*/|//[^\\n]*", Pattern.DOTALL).matcher(source).replaceAll("");
    }

    private static void words(String source) {
        for (String banned : BANNED) {
            Matcher found = Pattern.compile(banned).matcher(source);
            CHECKS.holds("no " + banned + " in the source", !found.find());
        }
    }
}
