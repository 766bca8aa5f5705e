import java.lang.reflect.Method;
import java.lang.reflect.Modifier;
import java.nio.file.Files;
import java.nio.file.Path;
import java.util.Set;
import java.util.TreeSet;
import java.util.regex.Matcher;
import java.util.regex.Pattern;

/** README.md: its examples answer what stands behind them, and no call of the face is left out. */
public final class ReadmeTest {
    private static final Pattern CALL = Pattern.compile("x\\.(\\w+)\\((.*?)\\);\\s*// (-?\\d+)(:.*)?");

    private static PailChain x = null;
    private static int checked = 0;
    private static int wrong = 0;

    private ReadmeTest() {
    }

    private static void say(String what) {
        wrong++;
        System.out.println("ReadmeTest: " + what);
    }

    public static void main(String[] args) throws Exception {
        Set<String> shown = new TreeSet<>();
        String text = Files.readString(Path.of("README.md"));
        Matcher block = Pattern.compile("(?s)```java\n(.*?)```").matcher(text);
        while (block.find()) {
            for (String line : block.group(1).split("\n")) {
                shown.add(line(line.strip()));
            }
        }
        for (Method m : PailChain.class.getDeclaredMethods()) {
            if (Modifier.isPublic(m.getModifiers())) {
                if (!text.contains("`" + m.getName() + "(")) {
                    say(m.getName() + " is in no table");
                }
                if (!shown.contains(m.getName())) {
                    say(m.getName() + " is in no example");
                }
            }
        }
        System.out.println("ReadmeTest: " + checked + " answers checked, " + wrong + " wrong");
        if (wrong != 0 || checked == 0) {
            System.exit(1);
        }
    }

    /** The name of the call in a line of an example, once its answer is checked. */
    private static String line(String line) throws Exception {
        if (line.equals("PailChain x = new PailChain();")) {
            x = new PailChain();
            return "";
        }
        Matcher call = CALL.matcher(line);
        if (!call.matches() || x == null) {
            say("not a call with its answer: " + line);
            return "";
        }
        long got = answer(call.group(1), call.group(2));
        checked++;
        if (got != Long.parseLong(call.group(3))) {
            say(line + " answers " + got);
        }
        return call.group(1);
    }

    private static long answer(String name, String told) throws Exception {
        for (Method m : PailChain.class.getDeclaredMethods()) {
            if (m.getName().equals(name) && Modifier.isPublic(m.getModifiers())) {
                String[] parts = told.isEmpty() ? new String[0] : told.split(", ");
                Object[] given = new Object[parts.length];
                for (int k = 0; k < parts.length; k++) {
                    given[k] = value(parts[k]);
                }
                return ((Number) m.invoke(x, given)).longValue();
            }
        }
        throw new IllegalArgumentException("no call " + name);
    }

    private static Object value(String part) {
        if (part.equals("true") || part.equals("false")) {
            return part.equals("true");
        }
        return part.startsWith("'") ? (int) part.charAt(1) : Integer.parseInt(part);
    }
}
