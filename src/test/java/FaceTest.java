import java.io.IOException;
import java.lang.reflect.Constructor;
import java.lang.reflect.Field;
import java.lang.reflect.Method;
import java.lang.reflect.Modifier;
import java.nio.file.Files;
import java.nio.file.Path;
import java.util.Set;
import java.util.TreeSet;

/** The class has the document's public face and nothing else that can be seen from outside. */
final class FaceTest {
    private static final Path DOCUMENT = Path.of("../shared/DOC.md");
    private static final Set<String> FACE = Set.of(
        "public static final int NONE",
        "public static final int DOWN",
        "public SharedBlockStore()",
        "public int feed(int) throws IllegalStateException",
        "public int drop() throws IllegalStateException",
        "public int append(int) throws IllegalStateException,IndexOutOfBoundsException",
        "public int cut(int,int) throws IllegalStateException,IndexOutOfBoundsException",
        "public int copy(int,int) throws IllegalStateException,IndexOutOfBoundsException",
        "public int blocks(int) throws IllegalStateException,IndexOutOfBoundsException",
        "public int block(int,int) throws IllegalStateException,IndexOutOfBoundsException",
        "public int word(int,int,int) throws IllegalStateException,IndexOutOfBoundsException",
        "public int find() throws IllegalStateException",
        "public boolean passes() throws IllegalStateException",
        "public int cell(int) throws IllegalStateException",
        "public int count(int) throws IllegalStateException",
        "public void refresh() throws IllegalStateException",
        "public int save() throws IllegalStateException",
        "public void crashAfter(int) throws IllegalArgumentException",
        "public boolean down()",
        "public int recover()",
        "public int probes()",
        "public int writes()");

    public static void main(String[] args) throws IOException {
        Checks checks = new Checks();
        Class<SharedBlockStore> type = SharedBlockStore.class;
        checks.due("public and final", Modifier.PUBLIC | Modifier.FINAL, type.getModifiers());
        checks.dueText("the face", new TreeSet<>(FACE).toString(), visibleMembers(type).toString());
        if (Files.exists(DOCUMENT)) {
            checks.dueText("the document's face", new TreeSet<>(FACE).toString(), documentsFace().toString());
        }
        checks.end();
    }

    /** The lines of the document's face, without the names of parameters and the numbers of constants. */
    private static Set<String> documentsFace() throws IOException {
        Set<String> told = new TreeSet<>();
        for (String line : Files.readAllLines(DOCUMENT)) {
            if (line.startsWith("    public ")) {
                String member = line.strip().replaceAll("( = -?\\d+)?;", "");
                told.add(member.replaceAll("int \\w+(?=[,)])", "int").replace(", ", ","));
            }
        }
        return told;
    }

    private static Set<String> visibleMembers(Class<?> type) {
        Set<String> seen = new TreeSet<>();
        for (Field field : type.getDeclaredFields()) {
            addVisible(seen, field.getModifiers(), field.toGenericString());
        }
        for (Constructor<?> constructor : type.getDeclaredConstructors()) {
            addVisible(seen, constructor.getModifiers(), constructor.toGenericString());
        }
        for (Method method : type.getDeclaredMethods()) {
            addVisible(seen, method.getModifiers(), method.toGenericString());
        }
        return seen;
    }

    private static void addVisible(Set<String> seen, int modifiers, String text) {
        if (!Modifier.isPrivate(modifiers)) {
            seen.add(text.replace("SharedBlockStore.", "").replace("java.lang.", ""));
        }
    }
}
