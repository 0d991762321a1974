import java.io.IOException;
import java.nio.file.Files;
import java.nio.file.Path;
import java.util.List;
import java.util.stream.Stream;

/** Each part of the document has a test of its sentences; Doc sees to it that none of them is left out there. */
public final class DocTest {
    private static final Path TESTS = Path.of("src/test/java");

    public static void main(String[] args) throws IOException {
        StringBuilder texts = new StringBuilder();
        try (Stream<Path> files = Files.list(TESTS)) {
            for (Path file : files.filter(one -> one.getFileName().toString().matches("SentencesOf\\w+Test.java")).toList()) {
                texts.append(Files.readString(file));
            }
        }
        List<String> names = Doc.names();
        Check.due("parts of the document", names.size(), 37);
        for (String name : names) {
            Check.due("tests of " + name, texts.toString().split("Doc.part\\(\"" + name + "\"\\)", -1).length - 1, 1);
        }
        Check.end();
    }
}
