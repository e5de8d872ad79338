import java.io.IOException;
import java.lang.reflect.InvocationTargetException;
import java.lang.reflect.Method;
import java.lang.reflect.Modifier;
import java.nio.file.Files;
import java.nio.file.Path;
import java.util.ArrayList;
import java.util.List;
import java.util.TreeSet;
import java.util.regex.Matcher;
import java.util.regex.Pattern;

/**
 * The calls that README.md shows answer what stands behind them. A line there is "field.name(arguments);", and behind
 * it may stand "// answer" or "// answer: why"; an answer is a number, true, false, a text in quotes, or "throws X".
 */
public final class ReadmeTest {
    private static final Pattern CALL = Pattern.compile("field\\.(\\w+)\\(([^)]*)\\);(?: +// ([^:]+)(?:: .+)?)?");
    private static final String NEW = "Steplode field = new Steplode();";
    private static final TreeSet<String> SHOWN = new TreeSet<>();

    private ReadmeTest() {
    }

    public static void main(String[] args) throws IOException {
        Steplode field = null;
        boolean isCode = false;
        for (String line : Files.readAllLines(Path.of("README.md"))) {
            if (line.startsWith("```")) {
                isCode = line.equals("```java");
                field = null;
            } else if (isCode && line.equals(NEW)) {
                field = new Steplode();
            } else if (isCode) {
                isAsTold(field, line);
            }
        }
        Checks.same("the methods that are shown", face().toString(), SHOWN.toString());
        Checks.end();
    }

    private static TreeSet<String> face() {
        TreeSet<String> names = new TreeSet<>();
        for (Method method : Steplode.class.getDeclaredMethods()) {
            if (Modifier.isPublic(method.getModifiers())) {
                names.add(method.getName());
            }
        }
        return names;
    }

    private static void isAsTold(Steplode field, String line) {
        Matcher call = CALL.matcher(line);
        boolean isCall = call.matches();
        Checks.same("a call of an object: " + line, "true", "" + (isCall && field != null));
        if (isCall && field != null) {
            String got = answer(field, call.group(1), call.group(2));
            if (call.group(3) != null) {
                SHOWN.add(call.group(1));
                Checks.same(line, call.group(3), got);
            }
        }
    }

    private static String answer(Steplode field, String name, String arguments) {
        for (Method method : Steplode.class.getDeclaredMethods()) {
            if (method.getName().equals(name)) {
                return answer(field, method, values(arguments));
            }
        }
        return "no such method";
    }

    private static List<Object> values(String arguments) {
        List<Object> values = new ArrayList<>();
        for (String argument : arguments.isEmpty() ? new String[0] : arguments.split(", ")) {
            boolean isTruth = argument.equals("true") || argument.equals("false");
            values.add(isTruth ? (Object) Boolean.valueOf(argument) : (Object) Integer.valueOf(argument));
        }
        return values;
    }

    private static String answer(Steplode field, Method method, List<Object> values) {
        try {
            Object got = method.invoke(field, values.toArray());
            return got instanceof String ? "\"" + got + "\"" : String.valueOf(got);
        } catch (InvocationTargetException e) {
            return "throws " + e.getCause().getClass().getSimpleName();
        } catch (IllegalAccessException e) {
            return "is not public";
        }
    }
}
