import java.io.IOException;
import java.lang.reflect.Method;
import java.nio.file.Files;
import java.nio.file.Path;
import java.util.TreeSet;
import java.util.regex.Matcher;
import java.util.regex.Pattern;

/** What README.md tells: each line of its example answers what stands behind it, and no call is left out. */
public final class ReadmeTest {
    private static final Pattern TEXT = Pattern.compile("String text = \"(.*)\";");
    private static final Pattern CALL = Pattern.compile("x\\.(\\w+)\\((.*)\\);\\s*// (-?\\d+)\\b.*");

    public static void main(String[] args) throws IOException, ReflectiveOperationException {
        String readme = Files.readString(Path.of("README.md"));
        int from = readme.indexOf("```java");
        int to = readme.indexOf("```", from + 3);
        Due.due("README.md has an example", from >= 0 && to > from ? 1 : 0, 1);
        example(readme.substring(from, to).split("\n"));
        allCalls(readme);
        Due.end();
    }

    private static void example(String[] lines) throws ReflectiveOperationException {
        TrickHouse x = new TrickHouse();
        String text = "";
        int calls = 0;
        for (String line : lines) {
            Matcher told = TEXT.matcher(line);
            Matcher call = CALL.matcher(line);
            if (told.matches()) {
                text = told.group(1);
            } else if (line.trim().equals("x.put(0, i, text.charAt(i));")) {
                putAll(x, text);
            } else if (call.matches()) {
                String arguments = call.group(2).replace("text.length()", Integer.toString(text.length()));
                Due.due(line, answer(x, call.group(1), arguments), Long.parseLong(call.group(3)));
                calls++;
            } else {
                Due.due("a call without an answer: " + line, line.startsWith("x.") ? 1 : 0, 0);
            }
        }
        Due.due("the example has calls", calls > 0 ? 1 : 0, 1);
    }

    private static void putAll(TrickHouse x, String text) {
        for (int i = 0; i < text.length(); i++) {
            Due.due("put of the text", x.put(0, i, text.charAt(i)), 1);
        }
    }

    private static long answer(TrickHouse x, String name, String arguments) throws ReflectiveOperationException {
        String[] told = arguments.isEmpty() ? new String[0] : arguments.split(", ");
        Class<?>[] types = new Class<?>[told.length];
        Object[] numbers = new Object[told.length];
        for (int k = 0; k < told.length; k++) {
            types[k] = int.class;
            numbers[k] = Integer.parseInt(told[k]);
        }
        Method method = TrickHouse.class.getMethod(name, types);
        return ((Number) method.invoke(x, numbers)).longValue();
    }

    private static void allCalls(String readme) {
        TreeSet<String> missing = new TreeSet<>();
        for (Method method : TrickHouse.class.getDeclaredMethods()) {
            boolean seen = java.lang.reflect.Modifier.isPublic(method.getModifiers());
            if (seen && !readme.contains("`" + method.getName() + "`")) {
                missing.add(method.getName());
            }
        }
        Due.due("calls that README.md leaves out: " + missing, missing.size(), 0);
    }
}
