import java.io.IOException;
import java.lang.reflect.Constructor;
import java.lang.reflect.Field;
import java.lang.reflect.Method;
import java.lang.reflect.Modifier;
import java.nio.file.Files;
import java.nio.file.Path;
import java.util.Arrays;
import java.util.TreeSet;
import java.util.regex.Matcher;
import java.util.regex.Pattern;

/** The public face, and those rules of LANGUAGE.md that can be seen from outside or in the text. */
public final class LanguageTest {
    private static final Path SOURCE = Path.of("src/main/java/WhisperSeats.java");
    private static final Path DOCUMENT = Path.of("../shared/DOC.md");

    public static void main(String[] args) throws IOException {
        face();
        nestedClasses();
        staticFields();
        words();
        Check.end();
    }

    private static void is(String what, boolean so) {
        Check.due(what, so ? 1 : 0, 1);
    }

    private static void face() throws IOException {
        TreeSet<String> due = new TreeSet<>();
        String document = Files.readString(DOCUMENT);
        Matcher line = Pattern.compile("(?m)^    public (int|long) (\\w+)\\((.*)\\);$").matcher(document);
        while (line.find()) {
            due.add(line.group(1) + " " + line.group(2) + "(" + line.group(3).replaceAll(" \\w+(,|$)", "$1") + ")");
        }
        TreeSet<String> got = new TreeSet<>();
        TreeSet<String> publicNames = new TreeSet<>();
        for (Method method : WhisperSeats.class.getDeclaredMethods()) {
            if (Modifier.isPublic(method.getModifiers())) {
                String types = Arrays.toString(method.getParameterTypes());
                got.add(method.getReturnType() + " " + method.getName() + "(" + types.substring(1, types.length() - 1) + ")");
                publicNames.add(method.getName());
            } else {
                is(method.getName() + " is private", Modifier.isPrivate(method.getModifiers()));
            }
        }
        Check.due("calls in the document", due.size(), 35);
        is("the face is " + due + " and not " + got, due.equals(got));
        for (Method method : WhisperSeats.class.getDeclaredMethods()) {
            is(method.getName() + " bears no public name",
                Modifier.isPublic(method.getModifiers()) || !publicNames.contains(method.getName()));
        }
        is("public and final", Modifier.isFinal(WhisperSeats.class.getModifiers()));
        for (Constructor<?> constructor : WhisperSeats.class.getDeclaredConstructors()) {
            Check.due("constructor's parameters", constructor.getParameterCount(), 0);
        }
        for (Field field : WhisperSeats.class.getDeclaredFields()) {
            is(field.getName() + " is private", Modifier.isPrivate(field.getModifiers()));
        }
    }

    private static void nestedClasses() {
        Class<?>[] classes = WhisperSeats.class.getDeclaredClasses();
        is("at most twelve classes", classes.length + 1 <= 12);
        for (Class<?> nested : classes) {
            is(nested + " is static", Modifier.isStatic(nested.getModifiers()));
            is(nested + " isn't public", !Modifier.isPublic(nested.getModifiers()));
            for (Method method : nested.getDeclaredMethods()) {
                is(method + " takes at most seven", method.getParameterCount() <= 7);
            }
        }
    }

    private static void staticFields() {
        for (Class<?> nested : WhisperSeats.class.getDeclaredClasses()) {
            for (Field field : nested.getDeclaredFields()) {
                staticField(field);
            }
        }
        for (Field field : WhisperSeats.class.getDeclaredFields()) {
            staticField(field);
        }
    }

    private static void staticField(Field field) {
        if (Modifier.isStatic(field.getModifiers())) {
            is(field + " is final", Modifier.isFinal(field.getModifiers()));
            is(field + " is a constant", field.getType() == int.class || field.getType() == int[].class);
        }
    }

    private static void words() throws IOException {
        String text = Files.readString(SOURCE);
        is("signs 10 and 32 to 126 alone", text.chars().allMatch(c -> c == '\n' || c >= 32 && c < 127));
        String code = text.replaceAll("(?s)/\\*.*?\\*/", "").replaceAll("//.*", "").replaceAll("\"[^\"\n]*\"", "\"\"");
        String[] refused = {
            "throw", "throws", "try", "catch", "finally", "synchronized", "assert", "import", "package", "double", "float",
            "Exact", "volatile", "transient", "native", "hashCode", "toString", "Object", "Override", "var",
        };
        for (String word : refused) {
            is("no " + word, !Pattern.compile("\\b" + word + "\\b").matcher(code).find());
        }
        is("no lambda", !code.contains("->"));
        is("no method reference", !code.contains("::"));
        Matcher library = Pattern.compile("\\b(Math|Integer|Long|System|Arrays)\\.(\\w+)").matcher(code);
        while (library.find()) {
            is("of the library only what is named: " + library.group(), library.group().matches(
                "Math\\.(min|max|abs)|Integer\\.bitCount|System\\.arraycopy"));
        }
    }
}
