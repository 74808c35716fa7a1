import java.io.IOException;
import java.lang.reflect.Method;
import java.lang.reflect.Modifier;
import java.nio.file.Files;
import java.nio.file.Path;
import java.util.Map;
import java.util.Set;
import java.util.TreeMap;
import java.util.TreeSet;
import java.util.regex.Matcher;
import java.util.regex.Pattern;

/** The calls in README.md have the answers that stand behind them, and every method is shown there. */
public final class ReadmeTest {
    private static final Path PAGE = Path.of("README.md");
    private static final Pattern MADE = Pattern.compile("OutageScreen x = new OutageScreen\\(\\);");
    private static final Pattern CALL = Pattern.compile("x\\.(\\w+)\\(([^()]*)\\); +// (-?\\d+)(:.*)?");
    private static final Pattern TYPED =
        Pattern.compile("for \\(char c : \"([^\"\\\\]*)\"\\.toCharArray\\(\\)\\) x\\.type\\(c\\);");

    private static final Map<String, Method> METHODS = new TreeMap<>();
    private static final Set<String> SHOWN = new TreeSet<>();
    private static OutageScreen x = null;
    private static int wrong = 0;
    private static int asked = 0;

    public static void main(String[] args) throws IOException, ReflectiveOperationException {
        for (Method m : OutageScreen.class.getDeclaredMethods()) {
            if (Modifier.isPublic(m.getModifiers())) {
                METHODS.put(m.getName(), m);
            }
        }
        boolean inside = false;
        for (String line : Files.readAllLines(PAGE)) {
            if (line.startsWith("```")) {
                inside = line.equals("```java");
            } else if (inside && !line.isBlank()) {
                follow(line);
            }
        }
        for (String name : METHODS.keySet()) {
            if (!SHOWN.contains(name)) {
                fails("no example calls " + name + "()");
            }
        }
        System.out.println("ReadmeTest: " + asked + " answers, " + wrong + " wrong");
        if (wrong != 0) {
            System.exit(1);
        }
    }

    // A line that is none of these would go untested, so it is a fault.
    private static void follow(String line) throws ReflectiveOperationException {
        Matcher call = CALL.matcher(line);
        Matcher typed = TYPED.matcher(line);
        if (MADE.matcher(line).matches()) {
            x = new OutageScreen();
        } else if (x != null && typed.matches()) {
            SHOWN.add("type");
            for (char c : typed.group(1).toCharArray()) {
                x.type(c);
            }
        } else if (x != null && call.matches() && METHODS.containsKey(call.group(1))) {
            ask(line, METHODS.get(call.group(1)), call.group(2), Long.parseLong(call.group(3)));
        } else {
            fails("cannot be tested: " + line);
        }
    }

    private static void ask(String line, Method method, String list, long due) throws ReflectiveOperationException {
        String[] words = list.isEmpty() ? new String[0] : list.split(", ");
        if (words.length != method.getParameterCount()) {
            fails("wrong number of arguments: " + line);
            return;
        }
        Object[] values = new Object[words.length];
        for (int i = 0; i < words.length; i++) {
            values[i] = words[i].equals("OutageScreen.NONE") ? OutageScreen.NONE : Integer.parseInt(words[i]);
        }
        asked++;
        SHOWN.add(method.getName());
        long got = ((Number) method.invoke(x, values)).longValue();
        if (got != due) {
            fails("answered " + got + ": " + line);
        }
    }

    private static void fails(String what) {
        wrong++;
        System.out.println(what);
    }
}
