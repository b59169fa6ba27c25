import java.io.IOException;
import java.lang.reflect.Method;
import java.lang.reflect.Modifier;
import java.nio.file.Files;
import java.nio.file.Path;
import java.util.Arrays;
import java.util.Set;
import java.util.TreeSet;
import java.util.regex.Matcher;
import java.util.regex.Pattern;

/** The calls that README.md shows, made in its order: they answer what README.md says of them. */
public final class ReadmeTest {
    private static final String NEW = "PackedArray table = new PackedArray();";
    private static final Pattern CALL = Pattern.compile("table\\.(\\w+)\\(([-0-9, ]*)\\); +// (-?[0-9]+)(: .+)?");
    private static final Pattern HOLDS = Pattern.compile("// holds (.+)");

    private final Set<String> shown = new TreeSet<>();
    private PackedArray table;

    public static void main(String[] args) throws IOException, ReflectiveOperationException {
        ReadmeTest test = new ReadmeTest();
        boolean inside = false;
        int number = 0;
        // .ci/run starts the tests in the project's directory.
        for (String line : Files.readAllLines(Path.of("README.md"))) {
            number++;
            if (line.startsWith("```")) {
                inside = line.equals("```java");
            } else if (inside && !line.isBlank()) {
                test.read("README.md, line " + number + ": ", line);
            }
        }
        Check.due("methods that README.md shows", test.shown, face());
        Check.end();
    }

    private void read(String at, String line) throws ReflectiveOperationException {
        Matcher call = CALL.matcher(line);
        Matcher holds = HOLDS.matcher(line);
        if (line.equals(NEW)) {
            table = new PackedArray();
        } else if (call.matches()) {
            shown.add(call.group(1));
            int got = made(call.group(1), call.group(2));
            Check.due(at + call.group(1) + "(" + call.group(2) + ")", got, Integer.valueOf(call.group(3)));
        } else if (holds.matches()) {
            String want = holds.group(1).equals("nothing") ? "" : holds.group(1);
            Check.due(at + "what is held", Check.state(table), want);
        } else {
            // A line that this test passes over would be one that nothing holds fast.
            Check.due(at + line, "no call with its answer", "one");
        }
    }

    private int made(String name, String list) throws ReflectiveOperationException {
        String[] texts = list.isEmpty() ? new String[0] : list.split(", ");
        Class<?>[] types = new Class<?>[texts.length];
        Arrays.fill(types, int.class);
        Object[] arguments = Arrays.stream(texts).map(Integer::valueOf).toArray();
        return (int) PackedArray.class.getMethod(name, types).invoke(table, arguments);
    }

    private static Set<String> face() {
        Set<String> names = new TreeSet<>();
        for (Method method : PackedArray.class.getDeclaredMethods()) {
            if (Modifier.isPublic(method.getModifiers())) {
                names.add(method.getName());
            }
        }
        return names;
    }
}
