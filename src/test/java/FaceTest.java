import java.lang.reflect.Constructor;
import java.lang.reflect.Field;
import java.lang.reflect.Method;
import java.lang.reflect.Modifier;
import java.nio.file.Files;
import java.nio.file.Path;
import java.util.ArrayList;
import java.util.List;
import java.util.Set;
import java.util.TreeSet;
import java.util.regex.Matcher;
import java.util.regex.Pattern;

/** The public face of the document, and those rules of LANGUAGE.md that a text can be searched for. */
public final class FaceTest {
    private static final String[] FACE = {
        "int places(int)", "int pail(int, int, int)", "int door(int, int)", "int deep(int)",
        "int say(int)", "int wipe()", "int fault()", "int pull()", "int behind(int, int)",
        "int after(int)", "int fewest(int)", "int soon(int)", "int hung(int)",
        "int race(int, int, int)", "long widow(int, int, int, int, int)", "int word()",
        "int drop()", "int apart(int)", "int seen(int, int, boolean)", "int forget()",
        "int came(int, int)", "int could(int, int)", "int day(int, int, int)", "int image(int)",
        "int restore(int)", "int told(int)"};

    private static final String[] CONSTANTS = {
        "int FULL", "int NO", "int NONE", "int OUTSIDE", "int STATE", "int UNKNOWN", "long GONE"};

    private static final String[] RULED_OUT = {
        "\\bthrow\\b", "\\bthrows\\b", "\\btry\\b", "\\bcatch\\b", "\\bsynchronized\\b",
        "\\bassert\\b", "->", "::", "\\bprotected\\b", "\\bimport\\b", "\\bpackage\\b",
        "\\bObject\\b", "\\bvar\\b", "Exact\\b", "\\bdouble\\b", "\\bfloat\\b", "static \\{"};

    private static int wrong = 0;

    private FaceTest() {
    }

    private static void must(boolean is, String what) {
        if (!is) {
            wrong++;
            System.out.println("FaceTest: " + what);
        }
    }

    public static void main(String[] args) throws Exception {
        methods();
        fields();
        must(Modifier.isFinal(PailChain.class.getModifiers()), "the class is final");
        Constructor<?>[] made = PailChain.class.getDeclaredConstructors();
        must(made.length == 1 && Modifier.isPublic(made[0].getModifiers())
            && made[0].getParameterCount() == 0, "one public constructor");
        nested();
        source(Files.readString(Path.of("src/main/java/PailChain.java")));
        System.out.println("FaceTest: " + wrong + " wrong");
        if (wrong != 0) {
            System.exit(1);
        }
    }

    private static String told(Method m) {
        List<String> types = new ArrayList<>();
        for (Class<?> type : m.getParameterTypes()) {
            types.add(type.getSimpleName());
        }
        return m.getReturnType().getSimpleName() + " " + m.getName() + "(" + String.join(", ", types) + ")";
    }

    private static void methods() {
        Set<String> open = new TreeSet<>();
        Set<String> names = new TreeSet<>();
        for (Method m : PailChain.class.getDeclaredMethods()) {
            if (!Modifier.isPrivate(m.getModifiers())) {
                must(Modifier.isPublic(m.getModifiers()) && !Modifier.isStatic(m.getModifiers()), told(m));
                open.add(told(m));
                names.add(m.getName());
            }
        }
        must(open.equals(new TreeSet<>(List.of(FACE))), "the methods are " + open);
        for (Class<?> inner : PailChain.class.getDeclaredClasses()) {
            for (Method m : inner.getDeclaredMethods()) {
                must(!names.contains(m.getName()), "a name of the face inside: " + m);
                must(m.getParameterCount() <= 7, "more than seven parameters: " + m);
            }
        }
        for (Method m : PailChain.class.getDeclaredMethods()) {
            must(Modifier.isPublic(m.getModifiers()) || !names.contains(m.getName()), "a name of the face: " + m);
        }
    }

    private static void fields() {
        Set<String> open = new TreeSet<>();
        for (Field f : PailChain.class.getDeclaredFields()) {
            if (!Modifier.isPrivate(f.getModifiers())) {
                open.add(f.getType().getSimpleName() + " " + f.getName());
            }
            must(!Modifier.isStatic(f.getModifiers()) || Modifier.isFinal(f.getModifiers()), "static state: " + f);
        }
        must(open.equals(new TreeSet<>(List.of(CONSTANTS))), "the constants are " + open);
    }

    private static void nested() {
        Class<?>[] inner = PailChain.class.getDeclaredClasses();
        must(inner.length <= 11, "more than twelve classes");
        for (Class<?> c : inner) {
            must(Modifier.isStatic(c.getModifiers()) && !Modifier.isPublic(c.getModifiers()), c + " is static, not public");
            must(c.getDeclaredClasses().length == 0, c + " has classes inside");
            int state = 0;
            for (Field f : c.getDeclaredFields()) {
                boolean isStatic = Modifier.isStatic(f.getModifiers());
                must(!isStatic || Modifier.isFinal(f.getModifiers()), "static state: " + f);
                state += isStatic ? 0 : 1;
            }
            must(state <= 20, c + " has " + state + " fields");
        }
    }

    private static void source(String text) {
        String code = text.replaceAll("(?s)/\\*.*?\\*/", "").replaceAll("//[^\n]*", "");
        for (String out : RULED_OUT) {
            Matcher m = Pattern.compile(out).matcher(code);
            must(!m.find(), "ruled out: " + out);
        }
        for (String line : code.split("\n")) {
            // What is made with the object is used again: nothing is made by calls.
            must(!line.contains("new ") || line.matches("    (    )?(private )?final .*= \\{?new .*"), "made by a call: " + line);
            must(!line.matches("\\s*(while|do)\\b.*"), "a loop without a counter: " + line);
        }
        must(!text.contains("\t") && text.chars().allMatch(c -> c == '\n' || c >= 32 && c < 127), "signs beyond 126");
        lengths(code);
    }

    /** Methods stay short: from a line that opens one to the brace that ends it. */
    private static void lengths(String code) {
        String[] lines = code.split("\n");
        for (int k = 0; k < lines.length; k++) {
            Matcher m = Pattern.compile("( {4}| {8})(?!private static final class)[^ ].*\\) \\{").matcher(lines[k]);
            if (m.matches()) {
                int end = k;
                while (end < lines.length && !lines[end].equals(m.group(1) + "}")) {
                    end++;
                }
                must(end - k < 60, "long: " + lines[k]);
            }
        }
    }
}
