import java.io.IOException;
import java.lang.reflect.Method;
import java.lang.reflect.Modifier;
import java.net.URL;
import java.net.URLClassLoader;
import java.nio.file.Files;
import java.nio.file.Path;
import java.util.List;
import java.util.function.BiConsumer;
import java.util.regex.Matcher;
import java.util.regex.Pattern;
import java.util.stream.Stream;
import javax.tools.JavaCompiler;
import javax.tools.ToolProvider;

/** README.md: its examples answer what stands behind them, and it names each call and each test. */
public final class ReadmeTest {
    private static final Path README = Path.of("README.md");
    private static final Pattern EXAMPLE = Pattern.compile("(?s)```java\n(.*?)```");
    /** A call, kept by a name or not, and the answer behind it. */
    private static final Pattern ANSWERED = Pattern.compile("\\s*(?:int (\\w+) = )?(park\\..*);\\s+// (-?\\d+)\\b.*");

    public static void main(String[] args) throws Exception {
        String readme = Files.readString(README);
        examples(readme);
        callsAreNamed(readme);
        testsAreNamed(readme);
        Check.end();
    }

    private static void examples(String readme) throws Exception {
        StringBuilder source = new StringBuilder("public final class Examples {\n");
        Matcher example = EXAMPLE.matcher(readme);
        int count = 0;
        while (example.find()) {
            source.append("public static void example").append(count)
                .append("(java.util.function.BiConsumer<String, long[]> due) {\n");
            example.group(1).lines().forEach(line -> source.append(asked(line)).append('\n'));
            source.append("}\n");
            count++;
        }
        Check.due("examples", count, 3);
        run(source.append("}\n").toString(), count);
    }

    /** The line of an example, which tells its answer and the one that stands behind it. */
    private static String asked(String line) {
        Matcher call = ANSWERED.matcher(line);
        if (!call.matches()) {
            return line;
        }
        String told = "due.accept(\"" + call.group(2) + "\", new long[] {%s, " + call.group(3) + "});";
        if (call.group(1) == null) {
            return told.formatted(call.group(2));
        }
        return "int " + call.group(1) + " = " + call.group(2) + "; " + told.formatted(call.group(1));
    }

    private static void run(String source, int count) throws Exception {
        Path folder = Files.createTempDirectory("readme");
        Path file = folder.resolve("Examples.java");
        Files.writeString(file, source);
        JavaCompiler compiler = ToolProvider.getSystemJavaCompiler();
        int fault = compiler.run(null, System.out, System.out, "-cp", System.getProperty("java.class.path"),
            "-d", folder.toString(), file.toString());
        Check.due("the examples compile", fault, 0);
        try (URLClassLoader loader = new URLClassLoader(new URL[] {folder.toUri().toURL()})) {
            BiConsumer<String, long[]> due = (call, answers) -> Check.due("README: " + call, answers[0], answers[1]);
            for (int i = 0; i < count; i++) {
                int before = Check.asked();
                loader.loadClass("Examples").getMethod("example" + i, BiConsumer.class).invoke(null, due);
                Check.due("example " + i + " tells answers", Check.asked() > before ? 1 : 0, 1);
            }
        } finally {
            for (String name : List.of("Examples.java", "Examples.class")) {
                Files.deleteIfExists(folder.resolve(name));
            }
            Files.deleteIfExists(folder);
        }
    }

    private static void callsAreNamed(String readme) {
        for (Method method : WhisperSeats.class.getDeclaredMethods()) {
            if (Modifier.isPublic(method.getModifiers())) {
                Check.due(method.getName() + " is named", readme.contains("`" + method.getName() + "`") ? 1 : 0, 1);
            }
        }
    }

    private static void testsAreNamed(String readme) throws IOException {
        try (Stream<Path> files = Files.list(Path.of("src/test/java"))) {
            for (Path file : files.filter(one -> one.getFileName().toString().endsWith("Test.java")).toList()) {
                String name = file.getFileName().toString().replace(".java", "").replaceFirst("^SentencesOf\\w+", "SentencesOf..Test");
                Check.due(name + " is named", readme.contains("`" + name + "`") ? 1 : 0, 1);
            }
        }
    }
}
