import java.io.IOException;
import java.lang.reflect.InvocationTargetException;
import java.lang.reflect.Method;
import java.nio.file.Files;
import java.nio.file.Path;
import java.util.Set;
import java.util.TreeSet;
import java.util.regex.Matcher;
import java.util.regex.Pattern;

/** Makes the calls of README.md's examples, line by line: each must answer what the README says, and no call be left untold. */
public final class ReadmeTest extends Checks {
    private static final Pattern CALL = Pattern.compile("yard\\.(\\w+)\\((.*?)\\);\\s+// (-?\\d+)(:.*)?");

    private final Set<String> told = new TreeSet<>();
    private NineKeysRound yard;

    private ReadmeTest() {
    }

    public static void main(String[] args) throws IOException, IllegalAccessException, InvocationTargetException {
        ReadmeTest test = new ReadmeTest();
        boolean java = false;
        for (String line : Files.readAllLines(Path.of("README.md"))) {
            if (line.startsWith("```")) java = line.equals("```java");
            else if (java && !line.isBlank()) test.make(line);
        }
        for (Method m : NineKeysRound.class.getDeclaredMethods()) test.lookFor(m);
        end("the README's examples hold");
    }

    private void make(String line) throws IllegalAccessException, InvocationTargetException {
        promise = "README.md";
        if (line.equals("NineKeysRound yard = new NineKeysRound();")) {
            yard = new NineKeysRound();
            return;
        }
        Matcher call = CALL.matcher(line);
        if (!call.matches() || yard == null) {
            fail("no call with its answer: " + line);
            return;
        }
        told.add(call.group(1));
        due(line, ask(call.group(1), call.group(2)), Long.parseLong(call.group(3)));
    }

    private long ask(String name, String arguments) throws IllegalAccessException, InvocationTargetException {
        String[] texts = arguments.isEmpty() ? new String[0] : arguments.split(", ");
        for (Method m : NineKeysRound.class.getMethods()) {
            if (!m.getName().equals(name) || m.getParameterCount() != texts.length) continue;
            Object[] numbers = new Object[texts.length];
            for (int i = 0; i < texts.length; i++) {
                long number = texts[i].startsWith("'") ? texts[i].charAt(1) : Long.parseLong(texts[i]);
                numbers[i] = m.getParameterTypes()[i] == long.class ? (Object) number : (Object) (int) number;
            }
            return ((Number) m.invoke(yard, numbers)).longValue();
        }
        fail("no such call: " + name);
        return 0;
    }

    private void lookFor(Method m) {
        boolean isPublic = java.lang.reflect.Modifier.isPublic(m.getModifiers());
        if (isPublic && !told.contains(m.getName())) fail("no example of " + m.getName());
    }
}
