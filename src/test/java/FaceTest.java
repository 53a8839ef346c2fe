import java.io.IOException;
import java.lang.reflect.Constructor;
import java.lang.reflect.Field;
import java.lang.reflect.Method;
import java.lang.reflect.Modifier;
import java.nio.charset.StandardCharsets;
import java.nio.file.Files;
import java.nio.file.Path;
import java.util.TreeSet;
import java.util.regex.Pattern;

/** The public face, and the rules of the language that can be seen in the class or its text. */
public final class FaceTest {
    private static final String[] FACE = {
        "int city(int,int,int,int)", "int ofArticle(int,int)", "int space(int)", "int cheer(int,int)",
        "int miss(int,int)", "int widen(int,int)", "int shift(int)", "int there()", "int company(int)",
        "int send(int)", "int call(int)", "int laughter()", "int heard(int)", "int year(int,int,int,int,int)",
        "int packs(int,int)", "int fetch(int)", "int lure(int)", "int reading(int,int)", "int back(int)",
        "int gaieties(int)", "int kinds(int)", "long wheres(int)", "long odds(int,int)",
        "int sheet(int,int,int)", "int lose(int)", "int put(int,int,int)", "long cell(int,int,int)",
        "int copy(int,int,int,int,int)", "int tell(int)", "int announce(int)", "int as(int,int)",
        "int trace()", "int fault()", "int many(int)"};

    private static final String[] FORBIDDEN = {
        "\\bthrow", "\\btry\\b", "\\bcatch\\b", "\\bsynchronized\\b", "\\bassert\\b", "->", "::",
        "\\bimport\\b", "\\bpackage\\b", "\\bdouble\\b", "\\bfloat\\b", "Exact\\b", "\\bprotected\\b"};

    public static void main(String[] args) throws IOException {
        methods();
        constants();
        classes();
        text();
        Due.end();
    }

    private static void same(String what, TreeSet<String> got, TreeSet<String> due) {
        Due.due(what + " " + got + " for " + due, got.equals(due) ? 1 : 0, 1);
    }

    private static String told(Method method) {
        StringBuilder told = new StringBuilder(method.getReturnType().getName());
        told.append(' ').append(method.getName()).append('(');
        for (int k = 0; k < method.getParameterCount(); k++) {
            told.append(k == 0 ? "" : ",").append(method.getParameterTypes()[k].getName());
        }
        return told.append(')').toString();
    }

    private static void methods() {
        TreeSet<String> got = new TreeSet<>();
        TreeSet<String> names = new TreeSet<>();
        for (Method method : TrickHouse.class.getDeclaredMethods()) {
            if (!Modifier.isPrivate(method.getModifiers())) {
                got.add((Modifier.isPublic(method.getModifiers()) ? "" : "not public: ") + told(method));
                names.add(method.getName());
            }
        }
        same("face", got, new TreeSet<>(java.util.List.of(FACE)));
        for (Method method : TrickHouse.class.getDeclaredMethods()) {
            boolean hidden = Modifier.isPrivate(method.getModifiers());
            Due.due("name of " + method, hidden && names.contains(method.getName()) ? 1 : 0, 0);
        }
        Constructor<?>[] made = TrickHouse.class.getDeclaredConstructors();
        Due.due("constructors", made.length, 1);
        Due.due("constructor's parameters", made[0].getParameterCount(), 0);
        Due.due("constructor is public", Modifier.isPublic(made[0].getModifiers()) ? 1 : 0, 1);
        Due.due("final", Modifier.isFinal(TrickHouse.class.getModifiers()) ? 1 : 0, 1);
    }

    private static void constants() {
        TreeSet<String> got = new TreeSet<>();
        for (Field field : TrickHouse.class.getDeclaredFields()) {
            boolean seen = !Modifier.isPrivate(field.getModifiers());
            if (seen) {
                got.add(Modifier.toString(field.getModifiers()) + " " + field.getType() + " " + field.getName());
            }
        }
        TreeSet<String> due = new TreeSet<>();
        for (String name : new String[] {"UNKNOWN", "OUTSIDE", "STATE", "FULL", "NONE"}) {
            due.add("public static final int " + name);
        }
        due.add("public static final long LOST");
        same("constants", got, due);
        Due.due("UNKNOWN", TrickHouse.UNKNOWN, -1);
        Due.due("OUTSIDE", TrickHouse.OUTSIDE, -2);
        Due.due("STATE", TrickHouse.STATE, -3);
        Due.due("FULL", TrickHouse.FULL, -4);
        Due.due("NONE", TrickHouse.NONE, -9);
        Due.due("LOST", TrickHouse.LOST, Long.MIN_VALUE);
    }

    private static void classes() {
        Class<?>[] inside = TrickHouse.class.getDeclaredClasses();
        Due.due("classes are some twelve at most", inside.length <= 11 ? 1 : 0, 1);
        for (Class<?> one : inside) {
            Due.due(one + " is static", Modifier.isStatic(one.getModifiers()) ? 1 : 0, 1);
            Due.due(one + " is private", Modifier.isPrivate(one.getModifiers()) ? 1 : 0, 1);
            for (Field field : one.getDeclaredFields()) {
                int how = field.getModifiers();
                Due.due(field + " is no static state", Modifier.isStatic(how) && !Modifier.isFinal(how) ? 1 : 0, 0);
            }
            for (Method method : one.getDeclaredMethods()) {
                Due.due(method + " has a name of its own", isOfFace(method.getName()) ? 1 : 0, 0);
                Due.due(method + " takes seven at most", method.getParameterCount() <= 7 ? 1 : 0, 1);
            }
        }
    }

    private static boolean isOfFace(String name) {
        for (String method : FACE) {
            if (method.contains(" " + name + "(")) {
                return true;
            }
        }
        return false;
    }

    private static void text() throws IOException {
        String source = Files.readString(Path.of("src/main/java/TrickHouse.java"), StandardCharsets.UTF_8);
        String code = source.replaceAll("(?s)/\\*.*?\\*/", "").replaceAll("//.*", "");
        for (String rule : FORBIDDEN) {
            Due.due("text has " + rule, Pattern.compile(rule).matcher(code).find() ? 1 : 0, 0);
        }
        Due.due("signs are 1 to 127", source.chars().allMatch(sign -> sign > 0 && sign < 128) ? 1 : 0, 1);
    }
}
