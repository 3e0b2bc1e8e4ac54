import java.io.IOException;
import java.lang.reflect.Field;
import java.lang.reflect.Method;
import java.lang.reflect.Modifier;
import java.nio.file.Files;
import java.nio.file.Path;
import java.util.Arrays;
import java.util.regex.Matcher;
import java.util.regex.Pattern;

/** README.md tells the truth of the class: its run of calls, and the names of all there is. */
public final class ReadmeTest {
    private static final Pattern CALL = Pattern.compile("net\\.(\\w+)\\(([^)]*)\\);\\s+// (-?\\d+)");
    private static final Checks CHECKS = new Checks();

    public static void main(String[] args) throws IOException, ReflectiveOperationException {
        String page = Files.readString(Path.of("README.md"));
        run(page);
        names(page);
        CHECKS.end();
    }

    private static void run(String page) throws ReflectiveOperationException {
        NetworkCoordinates net = new NetworkCoordinates();
        Matcher calls = CALL.matcher(page);
        int made = 0;
        while (calls.find()) {
            String name = calls.group(1);
            Object[] arguments = numbers(calls.group(2));
            Class<?>[] types = new Class<?>[arguments.length];
            Arrays.fill(types, int.class);
            Method method = NetworkCoordinates.class.getMethod(name, types);
            CHECKS.due(name + "(" + calls.group(2) + ")", Long.parseLong(calls.group(3)),
                    (Integer) method.invoke(net, arguments));
            made++;
        }
        int written = page.split("\nnet\\.", -1).length - 1;
        CHECKS.due("calls of the page that were made", written, made);
        CHECKS.holds("the page has a run of calls", made > 0);
    }

    private static Object[] numbers(String list) {
        return Pattern.compile("-?\\d+").matcher(list).results()
                .map(found -> (Object) Integer.valueOf(found.group())).toArray();
    }

    private static void names(String page) {
        for (Method method : NetworkCoordinates.class.getDeclaredMethods()) {
            if (Modifier.isPublic(method.getModifiers())) {
                // In the table, as code: with the brackets of a call behind it.
                boolean named = Pattern.compile("`" + method.getName() + "\\(").matcher(page).find();
                CHECKS.holds("the page names " + method.getName(), named);
            }
        }
        for (Field constant : NetworkCoordinates.class.getFields()) {
            CHECKS.holds("the page names " + constant.getName(),
                    page.contains("`" + constant.getName() + "`"));
        }
    }
}
