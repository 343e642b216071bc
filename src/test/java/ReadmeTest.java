import java.io.IOException;
import java.lang.reflect.InvocationTargetException;
import java.lang.reflect.Method;
import java.lang.reflect.Modifier;
import java.nio.charset.StandardCharsets;
import java.nio.file.DirectoryStream;
import java.nio.file.Files;
import java.nio.file.Path;
import java.util.regex.Matcher;
import java.util.regex.Pattern;

/** README.md: its example answers what it says, and it names every call of the face and every test. */
public final class ReadmeTest {
    private static final Pattern CALL = Pattern.compile("x\\.(\\w+)\\((.*?)\\);\\s*// (\"[^\"]*\"|[-\\w]+).*");

    public static void main(String[] args) throws IOException, IllegalAccessException {
        Path page = Path.of("README.md");
        Check.due("README.md is there", Files.isRegularFile(page), true);
        if (Files.isRegularFile(page)) {
            String text = Files.readString(page);
            example(text);
            calls(text);
            tests(text);
        }
        Check.end();
    }

    private static void example(String text) throws IllegalAccessException {
        int from = text.indexOf("```java\n");
        int to = text.indexOf("\n```", Math.max(from, 0) + 1);
        Check.due("there is an example", from >= 0 && to > from, true);
        if (from < 0 || to < from) {
            return;
        }
        ShadowTwin x = null;
        int asked = 0;
        for (String line : text.substring(from, to).split("\n")) {
            Matcher call = CALL.matcher(line);
            if (line.equals("ShadowTwin x = new ShadowTwin();")) {
                x = new ShadowTwin();
            } else if (call.matches() && x != null) {
                answer(x, call.group(1), call.group(2), call.group(3));
                asked++;
            } else {
                Check.due("can be read: " + line, line.equals("```java"), true);
            }
        }
        Check.due("the example asks something", asked > 0, true);
    }

    private static void answer(ShadowTwin x, String name, String written, String due)
        throws IllegalAccessException {
        Method method = methodOf(name);
        String[] words = written.isEmpty() ? new String[0] : written.split(", ");
        boolean fits = method != null && method.getParameterCount() == words.length;
        Check.due(name + "(" + written + ") is of the face", fits, true);
        if (!fits) {
            return;
        }
        Object[] arguments = new Object[words.length];
        for (int i = 0; i < words.length; i++) {
            boolean is = method.getParameterTypes()[i] == boolean.class;
            arguments[i] = is ? (Object) Boolean.valueOf(words[i]) : (Object) Long.decode(words[i]).intValue();
        }
        String got = answered(x, method, arguments);
        if (name.equals("feed")) {
            Check.same("what is fed", '"' + spelled(arguments) + '"', due);
        } else {
            Check.same(name + "(" + written + ")", got, due.equals("NONE") ? "-1" : due);
        }
    }

    /** What is thrown is told by its name, so that the rest of the page is looked at, too. */
    private static String answered(ShadowTwin x, Method method, Object[] arguments) throws IllegalAccessException {
        try {
            return String.valueOf(method.invoke(x, arguments));
        } catch (InvocationTargetException e) {
            return e.getCause().getClass().getSimpleName();
        }
    }

    private static Method methodOf(String name) {
        for (Method method : ShadowTwin.class.getDeclaredMethods()) {
            if (Modifier.isPublic(method.getModifiers()) && method.getName().equals(name)) {
                return method;
            }
        }
        return null;
    }

    private static String spelled(Object[] numbers) {
        byte[] bytes = new byte[4 * numbers.length];
        for (int i = 0; i < bytes.length; i++) {
            bytes[i] = (byte) ((Integer) numbers[i / 4] >> 24 - 8 * (i % 4));
        }
        return new String(bytes, StandardCharsets.ISO_8859_1);
    }

    private static void calls(String text) {
        int from = text.indexOf("| to | calls |");
        int to = text.indexOf("\n\n", Math.max(from, 0));
        Check.due("there is a list of calls", from >= 0 && to > from, true);
        if (from < 0 || to < from) {
            return;
        }
        String list = text.substring(from, to);
        for (Method method : ShadowTwin.class.getDeclaredMethods()) {
            if (Modifier.isPublic(method.getModifiers())) {
                Pattern named = Pattern.compile("[|,] " + method.getName() + "(,| \\|)");
                Check.due("the list of calls has " + method.getName(), named.matcher(list).find(), true);
            }
        }
    }

    private static void tests(String text) throws IOException {
        Check.due("it says how to run the tests", text.contains("\n    .ci/run\n"), true);
        try (DirectoryStream<Path> files = Files.newDirectoryStream(Path.of("src/test/java"), "*Test.java")) {
            for (Path file : files) {
                String name = file.getFileName().toString().replace(".java", "");
                Check.due("the list of tests has " + name, text.contains("| " + name + " |"), true);
            }
        }
    }
}
