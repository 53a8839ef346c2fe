import java.io.IOException;
import java.nio.file.Files;
import java.nio.file.Path;
import java.util.ArrayList;
import java.util.LinkedHashMap;
import java.util.List;
import java.util.Map;
import java.util.TreeSet;
import java.util.regex.Matcher;
import java.util.regex.Pattern;

/**
 * Rules 8 and 11 of the language, read off the class's text: how long methods are, how many parameters
 * they take, how deep they call one another (the library's functions, too), which one calls itself.
 */
public final class ShapeTest {
    private static final int MOST_LINES = 60, MOST_DEEP = 8, MOST_PARAMETERS = 7;
    private static final Pattern HEAD = Pattern.compile(
            "^\\s+(?:(?:public|private|static|final) )*(?:int|long|boolean|void)? ?(\\w+)\\(([^()]*)\\) \\{$");
    private static final Pattern CALLED = Pattern.compile("(?:\\bnew )?\\b([A-Za-z]\\w*)\\(");
    private static final String NO_CALLS = " if for while switch return ";

    private final Map<String, TreeSet<String>> calls = new LinkedHashMap<>();
    private final TreeSet<String> callThemselves = new TreeSet<>();
    private final Map<String, Integer> depths = new LinkedHashMap<>();

    public static void main(String[] args) throws IOException {
        ShapeTest test = new ShapeTest();
        test.read(Files.readAllLines(Path.of("src/main/java/TrickHouse.java")));
        test.deep();
        Due.end();
    }

    private void read(List<String> lines) {
        for (int i = 0; i < lines.size(); i++) {
            Matcher head = HEAD.matcher(lines.get(i));
            if (head.matches() && !NO_CALLS.contains(" " + head.group(1) + " ")) {
                int end = endOf(lines, i);
                method(head.group(1), head.group(2), lines.subList(i + 1, end));
                i = end;
            }
        }
        Due.due("methods that were found, " + calls.keySet(), calls.size() > 34 ? 1 : 0, 1);
    }

    /** A method ends with the first brace that stands where its own line begins. */
    private static int endOf(List<String> lines, int from) {
        String brace = lines.get(from).replaceAll("\\S.*", "") + "}";
        int end = from;
        while (!lines.get(end).equals(brace)) {
            end++;
        }
        return end;
    }

    private void method(String name, String parameters, List<String> body) {
        Due.due(name + " is of " + body.size() + " lines", body.size() <= MOST_LINES ? 1 : 0, 1);
        int taken = parameters.isEmpty() ? 0 : parameters.split(",").length;
        Due.due(name + " takes " + taken, taken <= MOST_PARAMETERS ? 1 : 0, 1);
        // By its name alone, so that names that are used twice would mix their calls up.
        Due.due(name + " is a name used once", calls.containsKey(name) ? 1 : 0, 0);
        TreeSet<String> called = new TreeSet<>();
        for (String line : body) {
            Matcher one = CALLED.matcher(line.replaceAll("//.*", ""));
            while (one.find()) {
                if (!NO_CALLS.contains(" " + one.group(1) + " ")) {
                    called.add(one.group(1));
                }
            }
        }
        if (called.remove(name)) {
            callThemselves.add(name);
        }
        calls.put(name, called);
    }

    private void deep() {
        for (String name : calls.keySet()) {
            int deep = depth(name, new ArrayList<>());
            Due.due(name + " goes " + deep + " deep", deep <= MOST_DEEP ? 1 : 0, 1);
        }
        Due.due("methods that call themselves " + callThemselves, callThemselves.size(), 1);
        Due.due("placeFrom does, by the ARTICLES", callThemselves.contains("placeFrom") ? 1 : 0, 1);
    }

    private int depth(String name, List<String> open) {
        if (depths.containsKey(name) || !calls.containsKey(name)) {
            return depths.getOrDefault(name, 1);
        }
        List<String> further = new ArrayList<>(open);
        further.add(name);
        int deepest = 0;
        for (String called : calls.get(name)) {
            boolean ring = further.contains(called);
            Due.due("methods that call one another, " + further + ", then " + called, ring ? 1 : 0, 0);
            deepest = ring ? deepest : Math.max(deepest, depth(called, further));
        }
        depths.put(name, deepest + 1);
        return deepest + 1;
    }
}
