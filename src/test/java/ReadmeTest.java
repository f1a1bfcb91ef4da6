import java.io.IOException;
import java.lang.reflect.Method;
import java.nio.file.Files;
import java.nio.file.Path;
import java.util.regex.Matcher;
import java.util.regex.Pattern;

/** README.md: its example answers as it says there, and its table has every call. */
public final class ReadmeTest {
    private static final Pattern CALL = Pattern.compile("desk\\.(\\w+)\\(([^)]*)\\);\\s*// (-?\\d+|true|false)\\b.*");

    public static void main(String[] args) throws IOException, ReflectiveOperationException {
        String readme = Files.readString(Path.of("README.md"));
        example(readme);
        for (Method method : UpdateDesk.class.getDeclaredMethods()) {
            if (java.lang.reflect.Modifier.isPublic(method.getModifiers())) {
                Check.due("the table has " + method.getName(), readme.contains("\n| `" + method.getName() + "("), true);
            }
        }
        Check.due("how to run the tests", readme.contains("`.ci/run`"), true);
        Check.end();
    }

    private static void example(String readme) throws ReflectiveOperationException {
        UpdateDesk desk = new UpdateDesk();
        int calls = 0;
        for (String line : readme.split("\n")) {
            if (line.startsWith("desk.")) {
                Matcher call = CALL.matcher(line);
                Check.due(line + ": a call with its answer", call.matches(), true);
                Check.due(line, String.valueOf(answer(desk, call)).equals(call.group(3)), true);
                calls++;
            }
        }
        Check.due("the example has calls", calls > 0, true);
    }

    private static Object answer(UpdateDesk desk, Matcher call) throws ReflectiveOperationException {
        String[] words = call.group(2).split(", ");
        Class<?>[] types = new Class<?>[words.length];
        Object[] numbers = new Object[words.length];
        for (int i = 0; i < words.length; i++) {
            types[i] = int.class;
            numbers[i] = Long.decode(words[i]).intValue();
        }
        return UpdateDesk.class.getMethod(call.group(1), types).invoke(desk, numbers);
    }
}
