import java.io.IOException;
import java.lang.reflect.Method;
import java.lang.reflect.Modifier;
import java.nio.file.Files;
import java.nio.file.Path;
import java.util.Arrays;
import java.util.List;
import java.util.regex.Matcher;
import java.util.regex.Pattern;

/** The calls that README.md shows answer what it tells behind them, and it names every call. */
public final class ReadmeTest {
    private static final Path README = Path.of("README.md");
    private static final Pattern CALL = Pattern.compile("x\\.(\\w+)\\(([-0-9, ]+)\\); +// (-?\\d+): .+");

    private final Checks checks = new Checks();
    private final LakeRelief x = new LakeRelief();

    public static void main(String[] args) throws IOException, ReflectiveOperationException {
        ReadmeTest test = new ReadmeTest();
        String text = Files.readString(README);
        test.answers(exampleIn(text));
        test.namesEveryCall(text);
        test.checks.end();
    }

    private static List<String> exampleIn(String text) {
        String begin = "```java\n";
        int from = text.indexOf(begin) + begin.length();
        return text.substring(from, text.indexOf("```", from)).lines().toList();
    }

    private void answers(List<String> lines) throws ReflectiveOperationException {
        checks.holds("it begins with a new object", lines.get(0).equals("LakeRelief x = new LakeRelief();"));
        for (String line : lines.subList(1, lines.size())) {
            Matcher call = CALL.matcher(line);
            boolean isCall = call.matches();
            checks.holds("a call and its answer: " + line, isCall);
            if (isCall) {
                checks.due(line, Long.parseLong(call.group(3)), answer(call.group(1), call.group(2).split(", ")));
            }
        }
    }

    private long answer(String name, String[] numbers) throws ReflectiveOperationException {
        Class<?>[] types = new Class<?>[numbers.length];
        Arrays.fill(types, int.class);
        Object[] values = Arrays.stream(numbers).map(Integer::valueOf).toArray();
        return ((Number) LakeRelief.class.getMethod(name, types).invoke(x, values)).longValue();
    }

    private void namesEveryCall(String text) {
        for (Method method : LakeRelief.class.getDeclaredMethods()) {
            if (Modifier.isPublic(method.getModifiers())) {
                checks.holds("a row for " + method.getName(), text.contains("`" + method.getName() + "("));
            }
        }
    }
}
