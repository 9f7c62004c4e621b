import java.io.IOException;
import java.lang.reflect.Method;
import java.nio.file.Files;
import java.nio.file.Path;
import java.util.ArrayList;
import java.util.List;
import java.util.Set;
import java.util.TreeSet;
import java.util.regex.Matcher;
import java.util.regex.Pattern;

/** The example in README.md answers what stands behind its calls, and each call of the class is told of there. */
public final class ReadmeTest {
    private static final Path README = Path.of("README.md");
    private static final Pattern ROW = Pattern.compile("keeper\\.(\\w+)\\(([^)]*)\\);\\s*// (-?\\w+)\\b.*");
    private static int wrong = 0;

    private static void fault(String text) {
        wrong++;
        System.out.println("README.md: " + text);
    }

    private static List<String> exampleRows(String readme) {
        List<String> rows = new ArrayList<>();
        Matcher block = Pattern.compile("(?s)```java\\n(.*?)```").matcher(readme);
        while (block.find()) {
            rows.addAll(block.group(1).lines().toList());
        }
        return rows;
    }

    private static Object[] argumentsOf(String text) {
        List<Object> found = new ArrayList<>();
        for (String part : text.isBlank() ? new String[0] : text.split(",")) {
            found.add(Integer.parseInt(part.trim()));
        }
        return found.toArray();
    }

    private static Method callNamed(String name) {
        for (Method m : SumsThatTell.class.getMethods()) {
            if (m.getName().equals(name)) {
                return m;
            }
        }
        return null;
    }

    private static void runExample(List<String> rows) throws ReflectiveOperationException {
        SumsThatTell keeper = new SumsThatTell();
        int calls = 0;
        for (String row : rows) {
            Matcher m = ROW.matcher(row);
            if (!m.matches()) {
                continue;
            }
            Method call = callNamed(m.group(1));
            Object[] arguments = argumentsOf(m.group(2));
            if (call == null || call.getParameterCount() != arguments.length) {
                fault("there is no such call: " + row);
                continue;
            }
            calls++;
            String got = String.valueOf(call.invoke(keeper, arguments));
            if (!got.equals(m.group(3))) {
                fault(row + " (it answered " + got + ")");
            }
        }
        if (calls != rows.size() - 1) {
            fault("rows of the example that could not be run: " + (rows.size() - 1 - calls));
        }
    }

    private static void allCallsAreTold(String readme) {
        Set<String> missing = new TreeSet<>();
        for (Method m : SumsThatTell.class.getDeclaredMethods()) {
            boolean isPublic = java.lang.reflect.Modifier.isPublic(m.getModifiers());
            if (isPublic && !readme.contains("`" + m.getName() + "(")) {
                missing.add(m.getName());
            }
        }
        if (!missing.isEmpty()) {
            fault("nothing is told of " + missing);
        }
    }

    public static void main(String[] args) throws IOException, ReflectiveOperationException {
        String readme = Files.readString(README);
        runExample(exampleRows(readme));
        allCallsAreTold(readme);
        System.out.println(wrong == 0 ? "the example answers as it says" : wrong + " faults");
        if (wrong != 0) {
            System.exit(1);
        }
    }
}
