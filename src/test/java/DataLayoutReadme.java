import java.io.IOException;
import java.lang.reflect.InvocationTargetException;
import java.lang.reflect.Method;
import java.nio.file.Files;
import java.nio.file.Path;
import java.util.HashMap;
import java.util.HashSet;
import java.util.Map;
import java.util.Set;
import java.util.regex.Matcher;
import java.util.regex.Pattern;

/** Makes the calls that README.md shows, and compares their answers with those written behind them. */
public final class DataLayoutReadme {
    private static final String NEW_OBJECT = "DataLayout data = new DataLayout();";
    private static final Pattern CALL = Pattern.compile(
            "(?:int (\\w+) = )?data\\.(\\w+)\\((.*)\\);\\s+// (throws \\w+|true|false|-?\\d+)(?:: .*)?");

    private static final Set<String> called = new HashSet<>();
    private static final Map<String, Integer> told = new HashMap<>();
    private static DataLayout data = null;
    private static int calls = 0;
    private static int wrong = 0;

    public static void main(String[] args) throws IOException, IllegalAccessException {
        boolean within = false;
        for (String line : Files.readAllLines(Path.of("README.md"))) {
            if (line.startsWith("```")) {
                within = line.equals("```java");
            } else if (within) {
                look(line);
            }
        }
        everyMethodIsShown();
        System.out.println(calls + " calls of README.md, " + wrong + " of them wrong");
        if (wrong != 0) {
            System.exit(1);
        }
    }

    private static void look(String line) throws IllegalAccessException {
        if (line.equals(NEW_OBJECT)) {
            data = new DataLayout();
            told.clear();
            return;
        }
        Matcher call = CALL.matcher(line);
        if (!call.matches() || data == null) {
            fault(line + " is no call with an answer");
            return;
        }
        calls++;
        called.add(call.group(2));
        String got = answer(call.group(2), call.group(3));
        if (!got.equals(call.group(4))) {
            fault(line + " answered " + got);
        }
        if (call.group(1) != null && got.matches("-?\\d+")) {
            told.put(call.group(1), Integer.valueOf(got));
        }
    }

    private static String answer(String name, String inside) throws IllegalAccessException {
        Method method = find(name);
        if (method == null) {
            return "nothing, as there is no such call";
        }
        String[] given = inside.isEmpty() ? new String[0] : inside.split(", ");
        Class<?>[] kinds = method.getParameterTypes();
        if (given.length != kinds.length) {
            return "nothing, as it takes " + kinds.length;
        }
        Object[] values = new Object[kinds.length];
        for (int k = 0; k < kinds.length; k++) {
            values[k] = value(given[k], kinds[k]);
        }
        try {
            return String.valueOf(method.invoke(data, values));
        } catch (InvocationTargetException e) {
            return "throws " + e.getCause().getClass().getSimpleName();
        }
    }

    private static Method find(String name) {
        for (Method method : DataLayout.class.getMethods()) {
            if (method.getName().equals(name)) {
                return method;
            }
        }
        return null;
    }

    private static Object value(String text, Class<?> kind) {
        if (kind == boolean.class) {
            return Boolean.valueOf(text);
        }
        Integer number = told.containsKey(text) ? told.get(text) : Integer.valueOf(text);
        return kind == byte.class ? (Object) number.byteValue() : number;
    }

    private static void everyMethodIsShown() {
        for (Method method : DataLayout.class.getDeclaredMethods()) {
            if (java.lang.reflect.Modifier.isPublic(method.getModifiers()) && !called.contains(method.getName())) {
                fault(method.getName() + " is not shown in README.md");
            }
        }
    }

    private static void fault(String text) {
        wrong++;
        System.out.println(text);
    }
}
