import java.io.IOException;
import java.lang.reflect.Method;
import java.nio.file.Files;
import java.nio.file.Path;
import java.util.regex.Matcher;
import java.util.regex.Pattern;

/** Runs the examples of README.md: each of their lines names the answer that is due. */
public final class ReadmeTest {
    private static final Pattern CALL = Pattern.compile("x\\.(\\w+)\\((.*)\\); *// (-?\\d+).*");
    private static final int CALLS_OF_THE_EXAMPLES = 28;

    public static void main(String[] args) throws IOException, ReflectiveOperationException {
        ChipPilers x = null;
        int calls = 0;
        for (String line : Files.readAllLines(Path.of("README.md"))) {
            Matcher call = CALL.matcher(line);
            if (line.equals("ChipPilers x = new ChipPilers();")) {
                x = new ChipPilers();
            } else if (call.matches()) {
                calls++;
                Check.due(line, answer(x, call.group(1), call.group(2)), Integer.parseInt(call.group(3)));
            }
        }
        Check.due("calls in the examples", calls, CALLS_OF_THE_EXAMPLES);
        Check.end();
    }

    private static int answer(ChipPilers x, String name, String list) throws ReflectiveOperationException {
        String[] words = list.isEmpty() ? new String[0] : list.split(", ");
        for (Method method : ChipPilers.class.getMethods()) {
            if (method.getName().equals(name)) {
                return (int) method.invoke(x, values(words));
            }
        }
        throw new NoSuchMethodException(name);
    }

    private static Object[] values(String[] words) {
        Object[] values = new Object[words.length];
        for (int index = 0; index < words.length; index++) {
            String word = words[index];
            values[index] = word.startsWith("'") ? (Object) word.charAt(1) : (Object) Integer.valueOf(word);
        }
        return values;
    }
}
