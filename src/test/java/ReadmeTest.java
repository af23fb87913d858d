import java.io.IOException;
import java.lang.reflect.Method;
import java.lang.reflect.Modifier;
import java.nio.file.Files;
import java.nio.file.Path;
import java.util.HashMap;
import java.util.Map;
import java.util.Set;
import java.util.TreeSet;
import java.util.regex.Matcher;
import java.util.regex.Pattern;

/** README.md shows every method, and each answer that it tells is given. */
final class ReadmeTest {
    private static final Pattern MADE = Pattern.compile("EndsRound (\\w+) = new EndsRound\\(\\);");
    private static final Pattern FED = Pattern.compile("feed\\((\\w+), \"([^\"]*)\"\\);");
    private static final Pattern CALL = Pattern.compile("(\\w+)\\.(\\w+)\\(([^)]*)\\); +// (-?\\d+|true|false)\\b.*");

    private static final Map<String, EndsRound> POEMS = new HashMap<>();
    private static final Set<String> SHOWN = new TreeSet<>();

    public static void main(String[] args) throws IOException, ReflectiveOperationException {
        for (String line : Files.readAllLines(Path.of("README.md"))) {
            readLine(line);
        }
        SHOWN.add("feed");
        for (Method method : EndsRound.class.getDeclaredMethods()) {
            if (Modifier.isPublic(method.getModifiers())) {
                Checks.due("shown: " + method.getName(), SHOWN.contains(method.getName()), true);
            }
        }
        Checks.end();
    }

    private static void readLine(String line) throws ReflectiveOperationException {
        Matcher made = MADE.matcher(line);
        Matcher fed = FED.matcher(line);
        Matcher call = CALL.matcher(line);
        if (made.matches()) {
            POEMS.put(made.group(1), new EndsRound());
        } else if (fed.matches()) {
            Checks.feed(POEMS.get(fed.group(1)), fed.group(2));
        } else if (call.matches()) {
            SHOWN.add(call.group(2));
            String answer = String.valueOf(answer(POEMS.get(call.group(1)), call.group(2), call.group(3)));
            Checks.due(line + " (it is " + answer + ")", answer.equals(call.group(4)), true);
        } else {
            Checks.due("a call without an answer: " + line, line.startsWith("poem.") || line.startsWith("song."), false);
        }
    }

    private static Object answer(EndsRound poem, String name, String told) throws ReflectiveOperationException {
        for (Method method : EndsRound.class.getDeclaredMethods()) {
            if (method.getName().equals(name)) {
                Class<?>[] types = method.getParameterTypes();
                Object[] values = new Object[types.length];
                String[] words = told.split(", ");
                for (int i = 0; i < values.length; i++) {
                    values[i] = types[i] == int.class ? (Object) Integer.valueOf(words[i])
                        : types[i] == long.class ? (Object) Long.valueOf(words[i]) : (Object) Boolean.valueOf(words[i]);
                }
                return method.invoke(poem, values);
            }
        }
        return "no such method";
    }
}
