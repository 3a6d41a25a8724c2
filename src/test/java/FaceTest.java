import java.io.IOException;
import java.lang.reflect.Constructor;
import java.lang.reflect.Field;
import java.lang.reflect.Method;
import java.lang.reflect.Modifier;
import java.nio.file.Files;
import java.nio.file.Path;
import java.util.Set;
import java.util.TreeSet;
import java.util.regex.Matcher;
import java.util.regex.Pattern;

/** The public face is the document's and no more, and the source keeps to the rules of LANGUAGE.md a text can show. */
public final class FaceTest {
    private static final Path SOURCE = Path.of("src/main/java/DelaunayMst.java");
    private static final Set<String> FACE = Set.of(
        "public static final int BAD_POINT",
        "public static final int DUPLICATE",
        "public static final int FULL",
        "public static final int NO_POINT",
        "public DelaunayMst()",
        "public int DelaunayMst.add(int,int)",
        "public int DelaunayMst.remove(int)",
        "public void DelaunayMst.clear()",
        "public int DelaunayMst.size()",
        "public int DelaunayMst.xOf(int)",
        "public int DelaunayMst.yOf(int)",
        "public int DelaunayMst.treeTotal()",
        "public int DelaunayMst.treeEdge(int)",
        "public int DelaunayMst.hop(int,int)",
        "public int DelaunayMst.groups(int)",
        "public int DelaunayMst.groupOf(int,int)",
        "public int DelaunayMst.nearest(int,int)",
        "public int DelaunayMst.neighbour(int)",
        "public boolean DelaunayMst.linked(int,int)",
        "public boolean DelaunayMst.close(int,int)",
        "public boolean DelaunayMst.emptyCircle(int,int,int)",
        "public boolean DelaunayMst.onHull(int)",
        "public int DelaunayMst.hullArea2()");
    private static final String FORBIDDEN_WORDS = "import|package|float|double|null|throw|throws|try|catch|synchronized"
        + "|assert|instanceof|String|Math|Integer|Long|System|Arrays|Object|enum|record|interface|protected|var|->|::";

    private static int wrong = 0;

    public static void main(String[] args) throws IOException {
        if (!faceOf(DelaunayMst.class).equals(FACE)) {
            fault("the face is " + faceOf(DelaunayMst.class));
        }
        if (!Modifier.isFinal(DelaunayMst.class.getModifiers()) || !Modifier.isPublic(DelaunayMst.class.getModifiers())) {
            fault("rule 1: the class is not public and final");
        }
        methodNames();
        fieldKinds();
        source();
        System.out.println(wrong == 0 ? "the face and the source keep to the rules" : wrong + " faults");
        if (wrong != 0) {
            System.exit(1);
        }
    }

    private static void fault(String text) {
        wrong++;
        System.out.println(text);
    }

    private static Set<String> faceOf(Class<?> type) {
        Set<String> face = new TreeSet<>();
        for (Field f : type.getDeclaredFields()) {
            if (!Modifier.isPrivate(f.getModifiers())) {
                face.add(Modifier.toString(f.getModifiers()) + " " + f.getType() + " " + f.getName());
            }
        }
        for (Constructor<?> c : type.getDeclaredConstructors()) {
            face.add(c.toString());
        }
        for (Method m : type.getDeclaredMethods()) {
            if (!Modifier.isPrivate(m.getModifiers())) {
                face.add(m.toString());
            }
        }
        return face;
    }

    private static void methodNames() {
        Set<String> names = new TreeSet<>();
        for (Method m : DelaunayMst.class.getDeclaredMethods()) {
            if (!names.add(m.getName())) {
                fault("rule 1: two methods are called " + m.getName());
            }
            if (m.getParameterCount() > 7) {
                fault("rule 10: too many parameters: " + m);
            }
        }
    }

    private static void fieldKinds() {
        for (Field f : DelaunayMst.class.getDeclaredFields()) {
            Class<?> type = f.getType().isArray() ? f.getType().getComponentType() : f.getType();
            if (!type.isPrimitive() || type == float.class || type == double.class) {
                fault("rule 2: " + f);
            }
            boolean constant = Modifier.isFinal(f.getModifiers()) && (f.getType() == int.class || f.getType() == long.class);
            if (Modifier.isStatic(f.getModifiers()) && !constant) {
                fault("rule 5: " + f);
            }
        }
    }

    private static void source() throws IOException {
        String code = Files.readString(SOURCE).replaceAll("(?s)/\\*.*?\\*/", "").replaceAll("//[^\n]*", "");
        report(code, "(?<![A-Za-z])(" + FORBIDDEN_WORDS + ")(?![A-Za-z])", "a forbidden word");
        report(code, "\\n {8,}[^\\n]*\\bnew\\b", "rule 4: new inside a method");
        report(code, "\\b\\w+\\([^()]*\\b\\w+\\(", "rule 10: a call inside a call's arguments");
    }

    private static void report(String code, String pattern, String what) {
        Matcher m = Pattern.compile(pattern).matcher(code);
        while (m.find()) {
            fault(what + ": " + m.group().strip());
        }
    }
}
