import java.io.IOException;
import java.lang.reflect.Method;
import java.lang.reflect.Modifier;
import java.nio.file.Files;
import java.nio.file.Path;
import java.util.HashMap;
import java.util.List;
import java.util.Map;
import java.util.regex.Matcher;
import java.util.regex.Pattern;

/** README.md's example: each of its calls answers the number that stands behind it; and its table names all calls. */
final class ReadmeTest {
    private static final Pattern CALL = Pattern.compile("(?:int (\\w+) = )?city\\.(\\w+)\\((.*)\\); *// (-?\\d+): .*");

    private final SkipCity city = new SkipCity();
    private final Map<String, Integer> names = new HashMap<>();
    private int calls = 0;

    private ReadmeTest() { }

    static void run() throws IOException, ReflectiveOperationException {
        String page = Files.readString(Path.of("README.md"));
        ReadmeTest test = new ReadmeTest();
        for (String line : example(page)) {
            test.check(line);
        }
        Checks.due("README.md has an example", test.calls > 0 ? 1 : 0, 1);
        namesEachCall(page);
    }

    /** The example's lines, but for the one that makes the city. */
    private static List<String> example(String page) {
        String code = page.replaceAll("(?s).*?```java\n(.*?)```.*", "$1");
        List<String> lines = code.lines().toList();
        Checks.due("README.md makes a city first", lines.get(0).startsWith("SkipCity city = new SkipCity();") ? 1 : 0, 1);
        return lines.subList(1, lines.size());
    }

    private void check(String line) throws ReflectiveOperationException {
        Matcher call = CALL.matcher(line);
        boolean fits = call.matches();
        Checks.due("README.md tells an answer: " + line, fits ? 1 : 0, 1);
        if (!fits) {
            return;
        }
        long answer = answer(call.group(2), call.group(3).split(", "));
        Checks.due("README.md: " + line, answer, Long.parseLong(call.group(4)));
        if (call.group(1) != null) {
            names.put(call.group(1), (int) answer);
        }
        calls++;
    }

    private long answer(String name, String[] words) throws ReflectiveOperationException {
        Object[] numbers = new Object[words.length];
        for (int i = 0; i < words.length; i++) {
            numbers[i] = number(words[i]);
        }
        for (Method method : SkipCity.class.getDeclaredMethods()) {
            if (method.getName().equals(name) && method.getParameterCount() == numbers.length) {
                return ((Number) method.invoke(city, numbers)).longValue();
            }
        }
        throw new IllegalStateException("README.md: no call " + name);
    }

    private int number(String word) {
        if (word.startsWith("'")) {
            return word.charAt(1);
        }
        return names.containsKey(word) ? names.get(word) : Integer.parseInt(word);
    }

    private static void namesEachCall(String page) {
        for (Method method : SkipCity.class.getDeclaredMethods()) {
            if (Modifier.isPublic(method.getModifiers())) {
                String named = "`" + method.getName() + "`";
                Checks.due("README.md names " + named, page.contains(named) ? 1 : 0, 1);
            }
        }
    }
}
