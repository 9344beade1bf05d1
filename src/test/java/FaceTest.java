import java.lang.reflect.Constructor;
import java.lang.reflect.Field;
import java.lang.reflect.Method;
import java.lang.reflect.Modifier;
import java.nio.file.Files;
import java.nio.file.Path;
import java.util.Set;
import java.util.TreeSet;
import java.util.regex.Pattern;

/** The public face, just so, and those rules of the language that can be read off the class and its text. */
public final class FaceTest {
    private static final Set<String> FACE = Set.of(
        "boolean tray 2", "boolean point 5", "int solid 2", "int grow 4", "int count 2", "int corner 3", "int edge 3",
        "long face 3", "int in 5", "int side 5", "long volume 1", "long middle 3", "int far 2", "long width 2", "int sum 3",
        "int apart 2", "long near 3", "int same 2", "boolean move 4", "boolean mirror 2", "boolean turn 2",
        "boolean copy 2", "int undo 0");

    private static void face() {
        Class<?> c = HullFoundry.class;
        Check.due("public final", c.getModifiers(), Modifier.PUBLIC | Modifier.FINAL);
        Set<String> found = new TreeSet<>();
        Set<String> names = new TreeSet<>();
        for (Method m : c.getDeclaredMethods()) {
            if (!Modifier.isPrivate(m.getModifiers())) {
                Check.due(m + " is public and no more", m.getModifiers(), Modifier.PUBLIC);
                found.add(m.getReturnType() + " " + m.getName() + " " + m.getParameterCount());
                names.add(m.getName());
                for (Class<?> type : m.getParameterTypes()) {
                    Check.due(m + " takes ints", type == int.class, true);
                }
            }
        }
        Check.due("methods " + found, found.equals(FACE), true);
        for (Constructor<?> k : c.getDeclaredConstructors()) {
            Check.due("constructor", k.getModifiers() == Modifier.PUBLIC && k.getParameterCount() == 0, true);
        }
        for (Field f : c.getDeclaredFields()) {
            boolean isNone = f.getName().equals("NONE");
            Check.due("field " + f, Modifier.isPrivate(f.getModifiers()), !isNone);
        }
        Check.due("classes", c.getDeclaredClasses().length < 12, true);
        for (Class<?> inner : c.getDeclaredClasses()) {
            innerClass(inner, names);
        }
        innerClass(c, Set.of());
    }

    private static void innerClass(Class<?> c, Set<String> faceNames) {
        int fields = 0;
        for (Field f : c.getDeclaredFields()) {
            boolean isStatic = Modifier.isStatic(f.getModifiers());
            Check.due(f + " is no static state", !isStatic || Modifier.isFinal(f.getModifiers()), true);
            fields += isStatic ? 0 : 1;
        }
        Check.due(c + " fields", fields <= 20, true);
        for (Method m : c.getDeclaredMethods()) {
            Check.due(m + " has a name of its own", faceNames.contains(m.getName()), false);
            Check.due(m + " takes up to seven", m.getParameterCount() <= 7, true);
        }
        if (c != HullFoundry.class) {
            Check.due(c + " is private and static", c.getModifiers(), Modifier.PRIVATE | Modifier.STATIC | Modifier.FINAL);
        }
    }

    private static void text() throws Exception {
        String text = Files.readString(Path.of("src/main/java/HullFoundry.java"));
        String code = text.replaceAll("(?s)/\\*.*?\\*/", "").replaceAll("//[^\n]*", "");
        String[] never = {"\\bthrow", "\\btry\\b", "\\bcatch\\b", "\\bsynchronized\\b", "\\bassert\\b", "->", "::",
            "static\\s*\\{", "\\bpackage\\b", "Exact\\b", "\\bdouble\\b", "\\bfloat\\b", "\"", "\\binstanceof\\b",
            "System\\.(?!arraycopy)", "Math\\.(?!(abs|min|max)\\b)", "Arrays\\.(?!fill\\b)(?!;)",
            "import (?!java\\.util\\.Arrays;)", "while \\(true\\)", "for \\(;;"};
        for (String pattern : never) {
            Check.due("text has " + pattern, Pattern.compile(pattern).matcher(code).find(), false);
        }
    }

    /** A method's last line is the first one after its head that is a brace as far in as the head. */
    private static void lengths() throws Exception {
        String[] lines = Files.readString(Path.of("src/main/java/HullFoundry.java")).split("\n");
        int methods = 0;
        for (int start = 0; start < lines.length; start++) {
            if (lines[start].matches("(    |        )[a-zA-Z][^=;]*\\) \\{") && !lines[start].matches(" *(if|for|while|switch) .*")) {
                String last = lines[start].replaceAll("\\S.*", "") + "}";
                int end = start;
                while (end < lines.length && !lines[end].equals(last)) {
                    end++;
                }
                Check.due("length of the method at line " + (start + 1), end - start < 60, true);
                methods++;
            }
        }
        Check.due("methods were found", methods > 60, true);
    }

    public static void main(String[] args) throws Exception {
        face();
        text();
        lengths();
        Check.end();
    }
}
