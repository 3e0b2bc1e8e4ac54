import java.io.IOException;
import java.io.OutputStream;
import java.io.PrintStream;
import java.lang.reflect.Method;
import java.net.URL;
import java.net.URLClassLoader;
import java.nio.file.Files;
import java.nio.file.Path;
import java.util.ArrayList;
import java.util.LinkedHashMap;
import java.util.List;
import java.util.Map;
import javax.tools.JavaCompiler;
import javax.tools.ToolProvider;

/**
 * Shows that each test of a single sentence fails if that sentence is broken: breaks the class in
 * the ways that broken.txt lists for the sentence, and runs that one test each time.
 */
public final class BrokenProof {
    private static final Path SOURCE = Path.of("src/main/java/NetworkCoordinates.java");
    private static final Path LIST = Path.of("src/proof/broken.txt");
    private static final JavaCompiler COMPILER = ToolProvider.getSystemJavaCompiler();
    private static final PrintStream OUT = System.out;

    private final Path build;
    private final Path tests;
    private final String source;
    private final Map<Method, Integer> caughtBy = new LinkedHashMap<>();
    private int wrong = 0;

    private BrokenProof(Path build, Path tests) throws IOException {
        this.build = build;
        this.tests = tests;
        this.source = Files.readString(SOURCE);
    }

    /** Takes a directory to build in, and the one with the compiled tests. */
    public static void main(String[] args) throws Exception {
        BrokenProof proof = new BrokenProof(Path.of(args[0]), Path.of(args[1]));
        // What the tests print of a broken class is of no use here.
        System.setOut(new PrintStream(OutputStream.nullOutputStream()));
        proof.run();
        System.exit(proof.wrong == 0 ? 0 : 1);
    }

    /** One way to break the class: each text of befores becomes the one of afters. */
    private static final class Break {
        private final int line;
        private final String in;
        private final String words;
        private final List<String> befores = new ArrayList<>();
        private final List<String> afters = new ArrayList<>();

        Break(int line, String in, String words) {
            this.line = line;
            this.in = in;
            this.words = words;
        }
    }

    private void fault(String text) {
        wrong++;
        OUT.println(text);
    }

    private void run() throws Exception {
        for (Class<?> one : Sentences.classes()) {
            for (Method test : Sentences.testsOf(one)) {
                caughtBy.put(test, 0);
            }
        }
        List<Break> breaks = read(Files.readAllLines(LIST));
        for (Break one : breaks) {
            prove(one);
        }
        caughtBy.forEach((test, times) -> {
            if (times == 0) {
                fault("No break is caught by " + test.getName());
            }
        });
        OUT.println(breaks.size() + " breaks of " + caughtBy.size() + " sentences, " + wrong
                + " wrong");
    }

    private static List<Break> read(List<String> lines) {
        List<Break> found = new ArrayList<>();
        char former = ' ';
        for (int i = 0; i < lines.size(); i++) {
            String line = lines.get(i);
            char mark = line.isEmpty() ? ' ' : line.charAt(0);
            if (mark == '=') {
                String[] head = line.substring(1).split(":", 2);
                found.add(new Break(i + 1, head[0].trim(), head[1].trim()));
            } else if (mark == '-' || mark == '+') {
                Break last = found.get(found.size() - 1);
                List<String> texts = mark == '-' ? last.befores : last.afters;
                if (mark == '-' && former != '-') {
                    last.befores.add(line.substring(1));
                    last.afters.add("");
                } else {
                    int at = texts.size() - 1;
                    String text = mark == '+' && former == '-' ? "" : texts.get(at) + "\n";
                    texts.set(at, text + line.substring(1));
                }
            }
            former = mark;
        }
        return found;
    }

    private void prove(Break one) throws Exception {
        String where = LIST + ":" + one.line + ", " + one.in + ": " + one.words + ": ";
        Method test = testOf(one);
        String broken = brokenSource(one, where);
        if (test == null) {
            fault(where + "not exactly one test has this sentence");
        } else if (broken != null) {
            Path classes = Files.createDirectories(build.resolve("broken" + one.line));
            Path file = classes.resolve(SOURCE.getFileName());
            Files.writeString(file, broken);
            if (COMPILER.run(null, OUT, OUT, "-d", classes.toString(), file.toString()) != 0) {
                fault(where + "does not compile");
            } else if (holds(test, classes)) {
                fault(where + "not caught");
            } else {
                caughtBy.merge(test, 1, Integer::sum);
            }
        }
    }

    private Method testOf(Break one) {
        List<Method> begin = new ArrayList<>();
        for (Method test : caughtBy.keySet()) {
            Sentence sentence = test.getAnnotation(Sentence.class);
            if (sentence.in().equals(one.in) && sentence.words().equals(one.words)) {
                return test;
            }
            if (sentence.in().equals(one.in) && sentence.words().startsWith(one.words)) {
                begin.add(test);
            }
        }
        return begin.size() == 1 ? begin.get(0) : null;
    }

    private String brokenSource(Break one, String where) {
        String broken = source;
        for (int i = 0; i < one.befores.size(); i++) {
            String before = one.befores.get(i);
            int at = broken.indexOf(before);
            if (at < 0 || broken.indexOf(before, at + 1) >= 0) {
                fault(where + "not exactly once in the class: " + before);
                return null;
            }
            broken = broken.substring(0, at) + one.afters.get(i)
                    + broken.substring(at + before.length());
        }
        return broken;
    }

    /** The broken class stands before the right one, and hides it. */
    private boolean holds(Method test, Path classes) throws Exception {
        URL[] path = {classes.toUri().toURL(), tests.toUri().toURL()};
        ClassLoader library = ClassLoader.getPlatformClassLoader();
        try (URLClassLoader loader = new URLClassLoader(path, library)) {
            Class<?> sentences = loader.loadClass(Sentences.class.getName());
            Class<?> holder = loader.loadClass(test.getDeclaringClass().getName());
            Method same = holder.getDeclaredMethod(test.getName(),
                    loader.loadClass(Checks.class.getName()));
            Method run = sentences.getDeclaredMethod("holds", Method.class);
            run.setAccessible(true);
            return (boolean) run.invoke(null, same);
        }
    }
}
