import java.io.IOException;
import java.lang.reflect.Method;
import java.nio.file.Files;
import java.nio.file.Path;
import java.util.LinkedHashMap;
import java.util.Map;
import java.util.regex.Matcher;
import java.util.regex.Pattern;

/**
 * Shows that the tests of single sentences leave none out: each quotes the document word for
 * word, and together they cover its Description with the Examples, and every promise.
 */
public final class QuotesProof {
    private static final Path DOCUMENT = Path.of("../shared/DOC.md");
    private static final String HEAD = "(?m)^## ([^:\\n]*).*$";
    private static final String PARAGRAPH = "(?m)^([A-Z]{4,})\\. ";
    private static final Pattern SIGNATURE = Pattern.compile("(?m)^`\\w*.*\\)`$");
    private static int wrong = 0;

    private QuotesProof() {
    }

    public static void main(String[] args) throws IOException {
        Map<String, StringBuilder> left = sections(Files.readString(DOCUMENT));
        int quotes = 0;
        for (Class<?> tests : Sentences.classes()) {
            for (Method test : Sentences.testsOf(tests)) {
                strike(left, test.getAnnotation(Sentence.class));
                quotes++;
            }
        }
        left.forEach(QuotesProof::nothingIsLeft);
        System.out.println(quotes + " quotes, " + wrong + " wrong or left out");
        System.exit(wrong == 0 ? 0 : 1);
    }

    private static void fault(String text) {
        wrong++;
        System.out.println(text);
    }

    private static Map<String, StringBuilder> sections(String document) {
        Map<String, StringBuilder> found = new LinkedHashMap<>();
        parts(document, HEAD).forEach((head, text) -> {
            if (head.equals("Description")) {
                int paragraphs = text.indexOf("NODES. ");
                int examples = text.indexOf("Examples: ");
                found.put(head, new StringBuilder(text.substring(0, paragraphs)));
                parts(text.substring(paragraphs, examples), PARAGRAPH)
                        .forEach((word, rule) -> found.put(word, new StringBuilder(rule)));
                found.put("Examples", new StringBuilder(examplesAlone(text.substring(examples))));
            } else {
                found.put(head, new StringBuilder(SIGNATURE.matcher(text).replaceAll("")));
            }
        });
        return found;
    }

    /** Without the sentence before them and the numbers, which say nothing of the class. */
    private static String examplesAlone(String text) {
        return text.substring(text.indexOf("\n")).replaceAll("(?m)^[0-9]+\\. ", "")
                .replaceAll("(?m)^The constructor and the methods follow.*$", "");
    }

    /** What stands behind each match, up to the next one, by the match's first group. */
    private static Map<String, String> parts(String text, String mark) {
        Map<String, String> found = new LinkedHashMap<>();
        Matcher next = Pattern.compile(mark).matcher(text);
        String name = null;
        int begin = 0;
        while (next.find()) {
            if (name != null) {
                found.put(name, text.substring(begin, next.start()));
            }
            name = next.group(1);
            begin = next.end();
        }
        if (name != null) {
            found.put(name, text.substring(begin));
        }
        return found;
    }

    private static final Map<String, String> ORIGINALS = new LinkedHashMap<>();

    /** Looks for the words in the text as it was, and blanks them out in what is left. */
    private static void strike(Map<String, StringBuilder> left, Sentence sentence) {
        StringBuilder text = left.get(sentence.in());
        if (text == null) {
            fault("The document has no part " + sentence.in());
            return;
        }
        String original = ORIGINALS.computeIfAbsent(sentence.in(), in -> flat(text));
        int at = original.indexOf(sentence.words());
        if (at < 0) {
            fault("Not in " + sentence.in() + ": " + sentence.words());
        }
        for (; at >= 0; at = original.indexOf(sentence.words(), at + 1)) {
            for (int i = at; i < at + sentence.words().length(); i++) {
                text.setCharAt(i, ' ');
            }
        }
    }

    private static String flat(StringBuilder text) {
        return text.toString().replace('\n', ' ');
    }

    private static void nothingIsLeft(String part, StringBuilder text) {
        boolean counts = part.startsWith("Promise") || part.equals("Description")
                || part.equals("Examples") || part.equals(part.toUpperCase());
        String words = flat(text).replaceAll("[^A-Za-z0-9]+", " ").trim();
        if (counts && !words.isEmpty()) {
            fault("No test quotes, in " + part + ": " + words);
        }
    }
}
