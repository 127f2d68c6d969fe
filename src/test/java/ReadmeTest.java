import java.lang.reflect.Method;
import java.nio.file.Files;
import java.nio.file.Path;
import java.util.Set;
import java.util.TreeSet;
import java.util.regex.Matcher;
import java.util.regex.Pattern;

/** The examples of README.md answer what their comments say, and show every call of the face. */
public final class ReadmeTest {
    private static final Check CHECK = new Check();
    private static final Pattern BLOCK = Pattern.compile("(?s)```java\n(.*?)```");
    private static final Pattern CALL = Pattern.compile("x\\.(\\w+)\\((.*?)\\);\\s+// (NO|-?\\d+)(:.*)?");
    private static final String MADE = "HeapTower x = new HeapTower();";

    private ReadmeTest() {
    }

    public static void main(String[] args) throws Exception {
        String readme = Files.readString(Path.of("README.md"));
        Set<String> shown = new TreeSet<>();
        Matcher block = BLOCK.matcher(readme);
        while (block.find()) {
            example(block.group(1), shown);
        }
        for (Method m : HeapTower.class.getDeclaredMethods()) {
            if (java.lang.reflect.Modifier.isPublic(m.getModifiers())) {
                CHECK.holds("an example of " + m.getName(), shown.contains(m.getName()));
                CHECK.holds("a line for " + m.getName(), readme.contains("| `" + m.getName() + "("));
            }
        }
        CHECK.end();
    }

    private static void example(String text, Set<String> shown) throws ReflectiveOperationException {
        String[] lines = text.split("\n");
        CHECK.holds("an example begins with an object", lines[0].startsWith(MADE));
        HeapTower x = new HeapTower();
        for (int i = 1; i < lines.length; i++) {
            Matcher call = CALL.matcher(lines[i]);
            CHECK.holds(lines[i] + ": is a call with its answer", call.matches());
            if (call.matches()) {
                int due = call.group(3).equals("NO") ? HeapTower.NO : Integer.parseInt(call.group(3));
                CHECK.due(lines[i], answer(x, call.group(1), call.group(2)), due);
                shown.add(call.group(1));
            }
        }
    }

    private static int answer(HeapTower x, String name, String arguments) throws ReflectiveOperationException {
        String[] words = arguments.isEmpty() ? new String[0] : arguments.split(", ");
        Class<?>[] kinds = new Class<?>[words.length];
        Object[] values = new Object[words.length];
        for (int i = 0; i < words.length; i++) {
            kinds[i] = int.class;
            values[i] = Integer.parseInt(words[i]);
        }
        return (int) HeapTower.class.getMethod(name, kinds).invoke(x, values);
    }
}
