import java.io.File;
import java.io.IOException;
import java.lang.reflect.InvocationTargetException;
import java.lang.reflect.Method;
import java.lang.reflect.Modifier;
import java.nio.file.Files;
import java.nio.file.Path;
import java.util.HashMap;
import java.util.List;
import java.util.Map;
import java.util.Set;
import java.util.TreeSet;
import java.util.regex.Matcher;
import java.util.regex.Pattern;

/** What README.md says is so: its example answers as it tells, every call is in it, and its table has every test. */
public final class ReadmeTest {
    private static final Pattern CALL = Pattern.compile(
            "(?:int (\\w+) = )?rows\\.(\\w+)\\(([^)]*)\\); +// (?:throws (\\w+)|(-?\\d+)(?::.*)?)");
    private static final Pattern ROW = Pattern.compile("\\| `(\\w+)` \\|.*");

    private final Checks checks = new Checks("ReadmeTest");
    private final StructureRows rows = new StructureRows();
    private final Map<String, Integer> names = new HashMap<>();
    private final Set<String> called = new TreeSet<>();

    public static void main(String[] args) throws IOException {
        new ReadmeTest().run(Files.readAllLines(Path.of("README.md")));
    }

    private void run(List<String> page) {
        example(page);
        checks.same("calls of the face in the example", called, faceMethods());
        checks.same("tests in the table", testsOf(page), testFiles());
        checks.same("the commands' files", new File(".ci/run").canExecute(), true);
        checks.end();
    }

    private void example(List<String> page) {
        int first = page.indexOf("```java") + 1;
        checks.same("the example begins with a new object", page.get(first).startsWith(
                "StructureRows rows = new StructureRows();"), true);
        for (int i = first + 1; i < page.size() && !page.get(i).equals("```"); i++) {
            if (!page.get(i).isEmpty()) {
                line(page.get(i));
            }
        }
    }

    private void line(String line) {
        Matcher told = CALL.matcher(line);
        if (!told.matches()) {
            checks.same("a line of the example", line, "a call with its answer");
            return;
        }
        String due = told.group(4) != null ? "throws." + told.group(4) : told.group(5);
        String got = answer(told.group(2), told.group(3).isEmpty() ? new String[0] : told.group(3).split(", "));
        called.add(told.group(2));
        checks.same(line, got, due);
        if (told.group(1) != null) {
            names.put(told.group(1), Integer.valueOf(got));
        }
    }

    private String answer(String name, String[] written) {
        for (Method method : StructureRows.class.getMethods()) {
            if (method.getName().equals(name) && method.getParameterCount() == written.length) {
                return Checks.answer(() -> invoke(method, written));
            }
        }
        return "no such call";
    }

    private int invoke(Method method, String[] written) {
        Object[] values = new Object[written.length];
        for (int i = 0; i < written.length; i++) {
            values[i] = value(written[i], method.getParameterTypes()[i]);
        }
        try {
            return (Integer) method.invoke(rows, values);
        } catch (InvocationTargetException e) {
            throw (RuntimeException) e.getCause();
        } catch (IllegalAccessException e) {
            throw new IllegalStateException(e);
        }
    }

    private Object value(String written, Class<?> type) {
        if (type == boolean.class) {
            return Boolean.valueOf(written);
        }
        return names.containsKey(written) ? names.get(written) : Integer.valueOf(written);
    }

    private static Set<String> faceMethods() {
        Set<String> all = new TreeSet<>();
        for (Method method : StructureRows.class.getDeclaredMethods()) {
            if (Modifier.isPublic(method.getModifiers())) {
                all.add(method.getName());
            }
        }
        return all;
    }

    private static Set<String> testsOf(List<String> page) {
        Set<String> all = new TreeSet<>();
        for (String line : page) {
            Matcher row = ROW.matcher(line);
            if (row.matches()) {
                all.add(row.group(1));
            }
        }
        return all;
    }

    private static Set<String> testFiles() {
        Set<String> all = new TreeSet<>();
        String[] files = new File("src/test/java").list();
        for (String file : files == null ? new String[0] : files) {
            if (file.endsWith("Test.java")) {
                all.add(file.substring(0, file.length() - ".java".length()));
            }
        }
        return all;
    }
}
