import java.io.IOException;
import java.lang.reflect.Method;
import java.nio.file.Files;
import java.nio.file.Path;
import java.util.regex.Matcher;
import java.util.regex.Pattern;

/** README.md: its lines answer what it says, and it names every test there is. */
public final class ReadmeTest {
    private static final Pattern CALL = Pattern.compile("x\\.(\\w+)\\(([-\\d, ]*)\\);\\s+// (true|false|-?\\d+)\\b.*");
    private static final Pattern TAPE = Pattern.compile("tape\\(x, (SCHOOL|\"(.*)\")\\);");

    private ReadmeTest() {
    }

    /** What stands between the first line of this kind behind the words and the line that ends it. */
    private static String block(String readme, String words, String kind) {
        int from = readme.indexOf("```" + kind + "\n", readme.indexOf(words)) + kind.length() + 4;
        return readme.substring(from, readme.indexOf("```", from));
    }

    private static Method methodOf(String name) {
        for (Method method : PupilsPupil.class.getDeclaredMethods()) {
            if (method.getName().equals(name)) {
                return method;
            }
        }
        throw new IllegalStateException("no method " + name);
    }

    private static String answer(PupilsPupil x, String name, String told) throws ReflectiveOperationException {
        Method method = methodOf(name);
        Object[] arguments = new Object[method.getParameterCount()];
        String[] numbers = told.split(", ");
        for (int k = 0; k < arguments.length; k++) {
            arguments[k] = Integer.valueOf(numbers[k]);
        }
        return String.valueOf(method.invoke(x, arguments));
    }

    private static String unescaped(String text) {
        return text.translateEscapes();
    }

    /** How many of the lines were calls. */
    private static int follow(String lines, String school) throws ReflectiveOperationException {
        PupilsPupil x = new PupilsPupil();
        int calls = 0;
        for (String line : lines.split("\n")) {
            Matcher tape = TAPE.matcher(line);
            Matcher call = CALL.matcher(line);
            if (tape.matches()) {
                Check.tape(x, tape.group(2) == null ? school : unescaped(tape.group(2)));
            } else if (call.matches()) {
                String got = answer(x, call.group(1), call.group(2));
                Check.due(line + " (it answered " + got + ")", got.equals(call.group(3)), true);
                calls++;
            } else {
                boolean free = line.isEmpty() || line.startsWith("//") || line.startsWith("PupilsPupil x");
                Check.due("a line that can be followed: " + line, free, true);
            }
        }
        return calls;
    }

    public static void main(String[] args) throws IOException, ReflectiveOperationException {
        String readme = Files.readString(Path.of("README.md"));
        String lines = block(readme, "What the lines below", "java");
        Check.due("the calls of README.md", follow(lines, block(readme, "called SCHOOL", "text")), 42);
        try (var files = Files.list(Path.of("src/test/java"))) {
            for (Path file : files.toList()) {
                String name = file.getFileName().toString().replace(".java", "");
                if (name.endsWith("Test")) {
                    Check.due("README.md names " + name, readme.contains("| " + name + " |"), true);
                }
            }
        }
        Check.close();
    }
}
