import java.io.IOException;
import java.io.UncheckedIOException;
import java.nio.file.Files;
import java.nio.file.Path;
import java.util.ArrayList;
import java.util.LinkedHashMap;
import java.util.List;
import java.util.Map;
import java.util.regex.Matcher;
import java.util.regex.Pattern;

/**
 * The document's sentences. A test names the one that it holds to, and fails if the document doesn't
 * say that, if it says something that no test names, or if nothing is asked behind a name.
 */
final class Doc {
    private static final Path DOCUMENT = Path.of("../shared/DOC.md");
    private static final Map<String, List<String>> PARTS = parts();

    private static List<String> left = new ArrayList<>();
    private static String part = "";
    private static String sentence = "";
    private static int askedBefore = 0;

    private Doc() {
    }

    /** "Terms", "Promise 1", .. "Promise 36", in the document's order. */
    static List<String> names() {
        return List.copyOf(PARTS.keySet());
    }

    static void part(String name) {
        close();
        part = name;
        left = new ArrayList<>(PARTS.getOrDefault(name, List.of()));
        is("the document has " + name, !left.isEmpty());
    }

    static void says(String words) {
        isAsked();
        is("the document says, once more: " + words, left.remove(words));
        sentence = words;
        askedBefore = Check.asked();
        Check.context = part + " (" + words + ") ";
    }

    static void end() {
        close();
        Check.end();
    }

    private static void close() {
        isAsked();
        Check.context = "";
        sentence = "";
        for (String words : left) {
            is(part + " has a test for: " + words, false);
        }
        left = new ArrayList<>();
    }

    private static void isAsked() {
        is("something is asked for: " + sentence, sentence.isEmpty() || Check.asked() > askedBefore);
    }

    private static void is(String what, boolean so) {
        Check.due(what, so ? 1 : 0, 1);
    }

    private static Map<String, List<String>> parts() {
        Map<String, List<String>> parts = new LinkedHashMap<>();
        Matcher heading = Pattern.compile("(?ms)^## (Terms|Promise \\d+)[^\n]*\n(.*?)(?=^## )").matcher(text());
        while (heading.find()) {
            parts.put(heading.group(1), sentences(heading.group(2)));
        }
        return parts;
    }

    private static String text() {
        try {
            return Files.readString(DOCUMENT);
        } catch (IOException fault) {
            throw new UncheckedIOException(fault);
        }
    }

    private static List<String> sentences(String text) {
        List<String> sentences = new ArrayList<>();
        for (String line : text.split("\n")) {
            // Headings of the interface, fences, numbers of sections and the call's own line say nothing to test.
            if (line.isBlank() || line.startsWith("Ahead of the calls") || line.startsWith("```")) {
                continue;
            }
            String words = line.strip().replaceFirst("^(\\d\\. |`[^`]*`: )", "");
            // A full stop ends a sentence, two in a row (0, 1, ..) don't.
            sentences.addAll(List.of(words.split("(?<=[^.]\\.|\\.\\)) (?=[A-Z(])")));
        }
        return sentences;
    }
}
