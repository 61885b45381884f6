import java.io.IOException;
import java.lang.reflect.Method;
import java.lang.reflect.Modifier;
import java.nio.file.DirectoryStream;
import java.nio.file.Files;
import java.nio.file.Path;
import java.util.regex.Matcher;
import java.util.regex.Pattern;

/** What README.md says of the calls is so: each line of its example is called, and must answer as told. */
public final class ReadmeTest {
    private static final Pattern CALL = Pattern.compile("book\\.(\\w+)\\(([-0-9, ]*)\\); *// (-?\\d+|[A-Z_]+)(:.*)?");
    private static final String FIRST_LINE = "CoreBook book = new CoreBook();";

    private static int wrong = 0;

    public static void main(String[] args) throws IOException, ReflectiveOperationException {
        String readme = Files.readString(Path.of("README.md"));
        example(readme);
        namesEachCall(readme);
        namesEachTest(readme);
        System.out.println(wrong == 0 ? "the README is right" : wrong + " things in the README are not so");
        if (wrong != 0) {
            System.exit(1);
        }
    }

    private static void complain(String what) {
        wrong++;
        System.out.println(what);
    }

    private static void example(String readme) throws ReflectiveOperationException {
        String fence = "```java\n" + FIRST_LINE + "\n";
        int start = readme.indexOf(fence);
        int end = readme.indexOf("```", start + fence.length());
        if (start < 0 || end < 0) {
            complain("there is no example");
            return;
        }
        CoreBook book = new CoreBook();
        for (String line : readme.substring(start + fence.length(), end).split("\n")) {
            Matcher call = CALL.matcher(line);
            if (!call.matches()) {
                complain("not a call with its answer: " + line);
                continue;
            }
            long got = answer(book, call.group(1), call.group(2));
            if (got != due(call.group(3))) {
                complain("answered " + got + ": " + line);
            }
        }
    }

    private static long due(String told) throws ReflectiveOperationException {
        return Character.isUpperCase(told.charAt(0)) ? CoreBook.class.getField(told).getInt(null) : Long.parseLong(told);
    }

    private static long answer(CoreBook book, String name, String arguments) throws ReflectiveOperationException {
        String[] texts = arguments.isEmpty() ? new String[0] : arguments.split(", ");
        for (Method m : CoreBook.class.getDeclaredMethods()) {
            if (m.getName().equals(name) && Modifier.isPublic(m.getModifiers()) && m.getParameterCount() == texts.length) {
                Object[] values = new Object[texts.length];
                for (int i = 0; i < texts.length; i++) {
                    boolean isLong = m.getParameterTypes()[i] == long.class;
                    values[i] = isLong ? (Object) Long.valueOf(texts[i]) : (Object) Integer.valueOf(texts[i]);
                }
                return ((Number) m.invoke(book, values)).longValue();
            }
        }
        throw new NoSuchMethodException(name + " with " + texts.length + " arguments");
    }

    private static void namesEachCall(String readme) {
        for (Method m : CoreBook.class.getDeclaredMethods()) {
            if (Modifier.isPublic(m.getModifiers()) && !readme.contains("`" + m.getName() + "`")) {
                complain("it does not name " + m.getName());
            }
        }
    }

    private static void namesEachTest(String readme) throws IOException {
        try (DirectoryStream<Path> tests = Files.newDirectoryStream(Path.of("src/test/java"), "*.java")) {
            for (Path test : tests) {
                String name = test.getFileName().toString().replace(".java", "");
                if (!readme.contains("- `" + name + "`:")) {
                    complain("it does not name " + name);
                }
            }
        }
    }
}
