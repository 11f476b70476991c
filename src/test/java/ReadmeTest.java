import java.io.IOException;
import java.lang.reflect.InvocationTargetException;
import java.lang.reflect.Method;
import java.nio.file.Files;
import java.nio.file.Path;
import java.util.HashMap;
import java.util.List;
import java.util.Map;
import java.util.Set;
import java.util.TreeSet;
import java.util.regex.Matcher;
import java.util.regex.Pattern;

/** The examples of README.md, line by line: each call answers what stands behind it, and every call has an example. */
public final class ReadmeTest {
    private static final Pattern MADE = Pattern.compile("SlideBoards (\\w+) = new SlideBoards\\((\\d+), (\\d+)\\);");
    private static final Pattern CALL = Pattern.compile("(\\w+)\\.(\\w+)\\(([^)]*)\\); *// ([\\w.-]+)(: .*)?");

    private final Checks checks = new Checks();
    private final Map<String, SlideBoards> objects = new HashMap<>();
    private final Set<String> shown = new TreeSet<>();

    public static void main(String[] args) throws IOException {
        new ReadmeTest().readAll(Files.readAllLines(Path.of("README.md")));
    }

    private void readAll(List<String> lines) {
        boolean inExample = false;
        for (String line : lines) {
            if (line.startsWith("```")) {
                inExample = line.equals("```java");
            } else if (inExample) {
                readLine(line);
            }
        }
        for (Method method : SlideBoards.class.getDeclaredMethods()) {
            if ((method.getModifiers() & java.lang.reflect.Modifier.PUBLIC) != 0) {
                checks.same(method.getName() + " has an example", shown.contains(method.getName()), true);
            }
        }
        checks.end();
    }

    private void readLine(String line) {
        Matcher made = MADE.matcher(line);
        Matcher call = CALL.matcher(line);
        if (made.matches()) {
            int width = Integer.parseInt(made.group(2));
            objects.put(made.group(1), new SlideBoards(width, Integer.parseInt(made.group(3))));
        } else if (call.matches()) {
            shown.add(call.group(2));
            checks.same(line, answerOf(call.group(1), call.group(2), call.group(3)), call.group(4));
        } else {
            checks.same(line, "no example that can be read", "an example");
        }
    }

    private String answerOf(String object, String name, String listed) {
        String[] texts = listed.isEmpty() ? new String[0] : listed.split(", ");
        Object[] arguments = new Object[texts.length];
        for (int i = 0; i < texts.length; i++) {
            boolean isNumber = Character.isDigit(texts[i].charAt(texts[i].length() - 1));
            arguments[i] = isNumber ? (Object) Integer.valueOf(texts[i]) : Boolean.valueOf(texts[i]);
        }
        for (Method method : SlideBoards.class.getMethods()) {
            if (method.getName().equals(name)) {
                return invoked(method, objects.get(object), arguments);
            }
        }
        return "no such call";
    }

    private static String invoked(Method method, SlideBoards boards, Object[] arguments) {
        try {
            return method.invoke(boards, arguments).toString();
        } catch (InvocationTargetException e) {
            return "throws." + e.getCause().getClass().getSimpleName();
        } catch (IllegalAccessException e) {
            return "can't be called";
        }
    }
}
