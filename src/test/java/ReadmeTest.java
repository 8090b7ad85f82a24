import java.io.IOException;
import java.lang.reflect.Method;
import java.lang.reflect.Modifier;
import java.nio.charset.StandardCharsets;
import java.nio.file.Files;
import java.nio.file.Paths;
import java.util.Arrays;
import java.util.regex.Matcher;
import java.util.regex.Pattern;

/** README.md's example answers what it says beside each call, and its table names every method of the class. */
public final class ReadmeTest {
    private static final Pattern CALL = Pattern.compile("^t\\.(\\w+)\\(([-0-9, ]*)\\); *// (-?\\d+|NONE|CONFLICT)\\b.*$");
    private static final Due due = new Due();

    private static int number(String text) {
        if (text.equals("NONE")) {
            return TransactionCaches.NONE;
        }
        return text.equals("CONFLICT") ? TransactionCaches.CONFLICT : Integer.parseInt(text);
    }

    private static int answer(TransactionCaches t, String name, String arguments) throws ReflectiveOperationException {
        Object[] numbers = arguments.isEmpty() ? new Object[0]
            : Arrays.stream(arguments.split(", *")).map(Integer::valueOf).toArray();
        Class<?>[] types = new Class<?>[numbers.length];
        Arrays.fill(types, int.class);
        return (Integer) TransactionCaches.class.getMethod(name, types).invoke(t, numbers);
    }

    private static void example(String text) throws ReflectiveOperationException {
        due.part("README.md, example");
        TransactionCaches t = new TransactionCaches();
        int calls = 0;
        for (String line : text.split("\n")) {
            Matcher call = CALL.matcher(line);
            if (line.startsWith("t.")) {
                calls++;
                due.is("'" + line + "' says what is answered", call.matches() ? 1 : 0, 1);
            }
            if (call.matches()) {
                due.is(line, answer(t, call.group(1), call.group(2)), number(call.group(3)));
            }
        }
        due.is("an example is there", calls > 0 ? 1 : 0, 1);
    }

    private static void table(String text) {
        due.part("README.md, table");
        for (Method m : TransactionCaches.class.getDeclaredMethods()) {
            if (Modifier.isPublic(m.getModifiers())) {
                due.is("names " + m.getName(), text.contains("| `" + m.getName() + "(") ? 1 : 0, 1);
            }
        }
    }

    public static void main(String[] args) throws IOException, ReflectiveOperationException {
        String text = new String(Files.readAllBytes(Paths.get("README.md")), StandardCharsets.UTF_8);
        example(text);
        table(text);
        due.finish();
    }
}
