import java.io.IOException;
import java.lang.reflect.Constructor;
import java.lang.reflect.Field;
import java.lang.reflect.Method;
import java.lang.reflect.Modifier;
import java.nio.file.Files;
import java.nio.file.Path;
import java.util.ArrayList;
import java.util.List;
import java.util.Map;
import java.util.Set;
import java.util.TreeMap;
import java.util.TreeSet;
import java.util.regex.Matcher;
import java.util.regex.Pattern;

/** README.md names the whole public face and every test, and each call of its example answers what stands beside it. */
public final class ReadmeTest {
    private static final Path README = Path.of("README.md");
    private static final Path TESTS = Path.of("src/test/java");
    private static final Pattern CONSTANT_ROW = Pattern.compile("\\| `([A-Z_]+)` \\| (-?\\d+) \\| \\S.* \\|");
    private static final Pattern CALL_ROW = Pattern.compile("\\| `([^`]*\\))` \\| \\S.* \\|");
    private static final Pattern EXAMPLE = Pattern.compile("(?s)```java\n(.*?)```");
    private static final Pattern CALL =
        Pattern.compile("(?:int (\\w+) = )?set\\.(\\w+)\\(([^)]*)\\);(?:\\s*// ([-\\w]+)(?::.*)?)?");

    private static int wrong = 0;

    public static void main(String[] args) throws IOException, ReflectiveOperationException {
        String text = Files.readString(README);
        constants(text);
        calls(text);
        example(text);
        tests(text);
        System.out.println(wrong == 0 ? "README.md is true" : wrong + " faults");
        if (wrong != 0) {
            System.exit(1);
        }
    }

    private static void fault(String text) {
        wrong++;
        System.out.println("README.md: " + text);
    }

    private static void due(String what, Object real, Object told) {
        if (!real.equals(told)) {
            fault(what + ": told is " + told + ", true is " + real);
        }
    }

    private static void constants(String text) throws ReflectiveOperationException {
        Map<String, String> told = new TreeMap<>();
        Matcher row = CONSTANT_ROW.matcher(text);
        while (row.find()) {
            told.put(row.group(1), row.group(2));
        }
        Map<String, String> real = new TreeMap<>();
        for (Field f : DelaunayMst.class.getFields()) {
            real.put(f.getName(), String.valueOf(f.get(null)));
        }
        due("the constants", real, told);
    }

    private static void calls(String text) {
        Set<String> told = new TreeSet<>();
        Matcher row = CALL_ROW.matcher(text);
        while (row.find()) {
            // Reflection knows the types of parameters, not their names.
            told.add(row.group(1).replaceAll("(int) \\w+(?=[,)])", "$1"));
        }
        Set<String> real = new TreeSet<>();
        for (Constructor<?> c : DelaunayMst.class.getConstructors()) {
            real.add(c.getDeclaringClass().getName() + parameters(c.getParameterTypes()));
        }
        for (Method m : publicMethods()) {
            real.add(m.getReturnType() + " " + m.getName() + parameters(m.getParameterTypes()));
        }
        due("the calls", real, told);
    }

    private static String parameters(Class<?>[] types) {
        List<String> names = new ArrayList<>();
        for (Class<?> type : types) {
            names.add(type.getName());
        }
        return "(" + String.join(", ", names) + ")";
    }

    private static List<Method> publicMethods() {
        List<Method> methods = new ArrayList<>();
        for (Method m : DelaunayMst.class.getDeclaredMethods()) {
            if (Modifier.isPublic(m.getModifiers())) {
                methods.add(m);
            }
        }
        return methods;
    }

    private static void example(String text) throws ReflectiveOperationException {
        Matcher block = EXAMPLE.matcher(text);
        String[] lines = block.find() ? block.group(1).split("\n") : new String[] {""};
        due("the example's first line", "DelaunayMst set = new DelaunayMst();", lines[0]);
        Map<String, Method> methods = new TreeMap<>();
        for (Method m : publicMethods()) {
            methods.put(m.getName(), m);
        }
        DelaunayMst set = new DelaunayMst();
        Map<String, Integer> ids = new TreeMap<>();
        Set<String> shown = new TreeSet<>();
        for (int i = 1; i < lines.length; i++) {
            Matcher call = CALL.matcher(lines[i]);
            if (!call.matches() || !methods.containsKey(call.group(2))) {
                fault("not a call of the class: " + lines[i]);
                continue;
            }
            shown.add(call.group(2));
            Object answer = methods.get(call.group(2)).invoke(set, arguments(call.group(3), ids));
            if (call.group(1) != null) {
                ids.put(call.group(1), (Integer) answer);
            }
            due(lines[i], String.valueOf(answer), said(call.group(4)));
        }
        due("the calls that the example shows", methods.keySet(), shown);
    }

    private static Object[] arguments(String list, Map<String, Integer> ids) {
        List<Object> values = new ArrayList<>();
        for (String word : list.isEmpty() ? new String[0] : list.split(", ")) {
            values.add(ids.containsKey(word) ? ids.get(word) : Integer.valueOf(word));
        }
        return values.toArray();
    }

    /** The answer a comment names; no comment stands for a call that answers nothing. */
    private static String said(String word) throws ReflectiveOperationException {
        if (word == null) {
            return "null";
        }
        return word.matches("[A-Z_]+") ? String.valueOf(DelaunayMst.class.getField(word).get(null)) : word;
    }

    private static void tests(String text) throws IOException {
        if (!text.contains("```sh\n.ci/run\n```")) {
            fault("it doesn't say how to run the tests");
        }
        try (var files = Files.list(TESTS)) {
            for (Path file : files.sorted().toList()) {
                if (!text.contains("- `" + file + "`: ")) {
                    fault("it doesn't name the test " + file);
                }
            }
        }
    }
}
