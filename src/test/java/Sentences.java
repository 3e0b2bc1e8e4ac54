import java.lang.reflect.InvocationTargetException;
import java.lang.reflect.Method;
import java.util.ArrayList;
import java.util.Arrays;
import java.util.Comparator;
import java.util.List;

/** Runs the tests of single sentences, each with a count of its own. */
final class Sentences {
    private Sentences() {
    }

    /** All classes that hold such tests. */
    static List<Class<?>> classes() {
        return List.of(ExamplesTest.class, GeneralSentencesTest.class,
                UpdateSentencesTest.class, RoundsSentencesTest.class,
                SettingSentencesTest.class, ReadingSentencesTest.class,
                MeasuringSentencesTest.class, QualitySentencesTest.class,
                TriangleSentencesTest.class, SlotSentencesTest.class);
    }

    /** In the order of their names, as reflection has none that is always the same. */
    static List<Method> testsOf(Class<?> tests) {
        List<Method> found = new ArrayList<>(Arrays.asList(tests.getDeclaredMethods()));
        found.removeIf(method -> !method.isAnnotationPresent(Sentence.class));
        found.sort(Comparator.comparing(Method::getName));
        return found;
    }

    static boolean holds(Method test) {
        Checks checks = new Checks();
        try {
            test.invoke(null, checks);
        } catch (InvocationTargetException thrown) {
            checks.holds("no " + thrown.getCause(), false);
        } catch (IllegalAccessException hidden) {
            checks.holds("no " + hidden, false);
        }
        return checks.wrong() == 0 && checks.made() > 0;
    }

    static void run(Class<?> tests) {
        List<Method> all = testsOf(tests);
        int broken = 0;
        for (Method test : all) {
            if (!holds(test)) {
                broken++;
                Sentence sentence = test.getAnnotation(Sentence.class);
                System.out.println("  broken, in " + sentence.in() + ": " + sentence.words());
            }
        }
        System.out.println(all.size() + " sentences, " + broken + " broken");
        if (broken != 0 || all.isEmpty()) {
            System.exit(1);
        }
    }
}
