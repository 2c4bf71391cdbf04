import java.io.IOException;
import java.lang.reflect.InvocationTargetException;
import java.lang.reflect.Method;
import java.nio.file.Files;
import java.nio.file.Path;
import java.util.regex.Matcher;
import java.util.regex.Pattern;
import java.util.stream.Stream;

/** Makes the calls of the example in README.md; a remark that begins with a word and a colon tells the answer. */
final class ReadmeTest {
    private static final Path README = Path.of("README.md");
    private static final Pattern EXAMPLE = Pattern.compile("```java\\n(.*?)```", Pattern.DOTALL);
    private static final Pattern LINE =
        Pattern.compile("(?:int \\w+ = )?store\\.(\\w+)\\(([-\\d, ]*)\\);(?:\\s+//\\s*(?:(\\S+):)?.*)?");

    private final Checks checks = new Checks();
    private final SharedBlockStore store = new SharedBlockStore();
    private int compared;

    public static void main(String[] args) throws IOException, ReflectiveOperationException {
        ReadmeTest test = new ReadmeTest();
        Matcher example = EXAMPLE.matcher(Files.readString(README));
        test.checks.due("there is an example", true, example.find());
        String[] lines = example.group(1).split("\\n");
        test.checks.dueText("its first line", "SharedBlockStore store = new SharedBlockStore();", lines[0]);
        for (int i = 1; i < lines.length; i++) {
            test.play(lines[i]);
        }
        test.checks.due("some answers were compared", true, test.compared > 5);
        test.checks.end();
    }

    private void play(String text) throws ReflectiveOperationException {
        Matcher line = LINE.matcher(text);
        if (!line.matches()) {
            checks.dueText("a line of the example", "a call", text);
            return;
        }
        String answer = answer(line.group(1), numbers(line.group(2)));
        if (line.group(3) != null) {
            checks.dueText(text, line.group(3), answer);
            compared++;
        }
    }

    private static Object[] numbers(String text) {
        return Stream.of(text.split(",\\s*")).filter(number -> !number.isBlank()).map(Integer::valueOf).toArray();
    }

    private String answer(String name, Object[] numbers) throws ReflectiveOperationException {
        Class<?>[] types = Stream.of(numbers).map(number -> int.class).toArray(Class<?>[]::new);
        Method method = SharedBlockStore.class.getMethod(name, types);
        try {
            return named(method.invoke(store, numbers));
        } catch (InvocationTargetException e) {
            return e.getCause().getClass().getSimpleName();
        }
    }

    private static String named(Object answer) {
        if (Integer.valueOf(SharedBlockStore.NONE).equals(answer)) {
            return "NONE";
        }
        return Integer.valueOf(SharedBlockStore.DOWN).equals(answer) ? "DOWN" : String.valueOf(answer);
    }
}
