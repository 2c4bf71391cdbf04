import java.io.IOException;
import java.lang.reflect.Field;
import java.lang.reflect.Method;
import java.lang.reflect.Modifier;
import java.nio.file.Files;
import java.nio.file.Path;
import java.util.List;
import java.util.Set;
import java.util.TreeSet;
import java.util.regex.Matcher;
import java.util.regex.Pattern;

/** Those rules of LANGUAGE.md that can be seen from the class's source or its compiled members. */
final class LanguageTest {
    private static final Path SOURCE = Path.of("src/main/java/SharedBlockStore.java");
    private static final Pattern REMARK_OR_TEXT =
        Pattern.compile("/\\*.*?\\*/|//[^\\n]*|\"[^\"\\n]*\"", Pattern.DOTALL);
    /** A method ends with a brace that stands as far in as its first line. */
    private static final Pattern METHOD =
        Pattern.compile("(?ms)^( {4}| {8})(?! |private static final class)[^\\n]*\\{\\n.*?^\\1\\}$");
    private static final Pattern LIBRARY =
        Pattern.compile("System.arraycopy|Arrays.(copyOf|copyOfRange|fill)|(Integer|Long|Math)\\.\\w+(?<!Exact)");
    private static final Set<String> EXCEPTIONS =
        Set.of("IllegalStateException", "IllegalArgumentException", "IndexOutOfBoundsException");

    private final Checks checks = new Checks();
    private final String source;

    private LanguageTest(String source) {
        this.source = source;
    }

    public static void main(String[] args) throws IOException {
        String text = Files.readString(SOURCE);
        LanguageTest test = new LanguageTest(REMARK_OR_TEXT.matcher(text).replaceAll("x"));
        test.wordsThatAreOut();
        test.library();
        test.exceptions();
        test.membersOf(SharedBlockStore.class);
        test.classesInside();
        test.namesOfTheFace();
        test.lengthsOfMethods(text);
        test.checks.end();
    }

    private void wordsThatAreOut() {
        List<String> out = List.of(
            "->", "::", "\\bfinally\\b", "\\bsynchronized\\b", "\\bassert\\b", "\\bpackage\\b", "\\bpublic class\\b",
            "\\bprotected\\b", "\\bstatic \\{", "\\bThread\\b", "\\bvar\\b", "\\bwhile \\(true\\)", "\\bfor \\(;;");
        for (String word : out) {
            checks.due("source without " + word, false, Pattern.compile(word).matcher(source).find());
        }
    }

    private void library() {
        Matcher line = Pattern.compile("import ([^;]+);").matcher(source);
        while (line.find()) {
            checks.dueText("import", "java.util.Arrays", line.group(1));
        }
        Matcher call = Pattern.compile("\\b(Arrays|System|Math|Integer|Long)\\.\\w+").matcher(source);
        while (call.find()) {
            checks.due(call.group() + " is in the library", true, LIBRARY.matcher(call.group()).matches());
        }
    }

    private void exceptions() {
        Matcher thrown = Pattern.compile("throw new (\\w+)\\(x?\\);").matcher(source);
        int seen = 0;
        while (thrown.find()) {
            checks.due(thrown.group(1) + " may be thrown", true, EXCEPTIONS.contains(thrown.group(1)));
            seen++;
        }
        checks.due("throws that are written plainly", source.split("\\bthrow\\b", -1).length - 1, seen);
    }

    private void classesInside() {
        Class<?>[] inside = SharedBlockStore.class.getDeclaredClasses();
        checks.due("at most twelve classes", true, inside.length < 12);
        for (Class<?> type : inside) {
            checks.due(type + " is static", true, Modifier.isStatic(type.getModifiers()));
            checks.due(type + " is not public", false, Modifier.isPublic(type.getModifiers()));
            membersOf(type);
        }
    }

    private void membersOf(Class<?> type) {
        int fields = 0;
        for (Field field : type.getDeclaredFields()) {
            if (Modifier.isStatic(field.getModifiers())) {
                checks.due(field + " is final", true, Modifier.isFinal(field.getModifiers()));
            } else {
                fields++;
            }
        }
        checks.due(type + " has at most twenty fields", true, fields <= 20);
        for (Method method : type.getDeclaredMethods()) {
            checks.due(method + " takes at most seven", true, method.getParameterCount() <= 7);
        }
    }

    private void namesOfTheFace() {
        Set<String> face = new TreeSet<>();
        for (Method method : SharedBlockStore.class.getDeclaredMethods()) {
            if (Modifier.isPublic(method.getModifiers())) {
                checks.due(method.getName() + " is the only one of its name", true, face.add(method.getName()));
            }
        }
        for (Method method : SharedBlockStore.class.getDeclaredMethods()) {
            if (!Modifier.isPublic(method.getModifiers())) {
                checks.due(method.getName() + " is a name of its own", false, face.contains(method.getName()));
            }
        }
        for (Class<?> type : SharedBlockStore.class.getDeclaredClasses()) {
            for (Method method : type.getDeclaredMethods()) {
                checks.due(method + " has a name of its own", false, face.contains(method.getName()));
            }
        }
    }

    private void lengthsOfMethods(String text) {
        Matcher method = METHOD.matcher(text);
        int seen = 0;
        while (method.find()) {
            String[] lines = method.group().split("\\n");
            checks.due("at most sixty lines in " + lines[0].strip(), true, lines.length <= 60);
            seen++;
        }
        checks.due("methods were seen", true, seen > 40);
    }
}
