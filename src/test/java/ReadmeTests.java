import java.io.IOException;
import java.lang.reflect.InvocationTargetException;
import java.lang.reflect.Method;
import java.lang.reflect.Modifier;
import java.nio.file.Files;
import java.nio.file.Path;
import java.util.ArrayList;
import java.util.Arrays;
import java.util.HashSet;
import java.util.List;
import java.util.Set;
import java.util.TreeSet;
import java.util.regex.Matcher;
import java.util.regex.Pattern;

/** README.md: every call of its example, and its table of calls against the class. Runs in the project's directory. */
public final class ReadmeTests extends Checks {
    static final Pattern CALL = Pattern.compile("evening\\.(\\w+)\\((.*?)\\);\\s+// (answers|throws) ([-\\w]+)(:.*)?");
    static final Pattern ROW = Pattern.compile("\\| `(\\w+)\\((.*?)\\)` \\|(.*?)\\|(.*?)\\|");
    static final Pattern EXCEPTION = Pattern.compile("`(\\w+Exception)`");

    static List<String> readme() throws IOException {
        return Files.readAllLines(Path.of("README.md"));
    }

    static Method method(String name) {
        for (Method m : DropSignals.class.getDeclaredMethods()) {
            if (Modifier.isPublic(m.getModifiers()) && m.getName().equals(name)) {
                return m;
            }
        }
        throw new IllegalStateException("README.md names a call that there is not: " + name);
    }

    static Object value(String text, Class<?> type) {
        if (type == boolean.class) {
            return Boolean.valueOf(text);
        }
        if (type == long.class) {
            return Long.valueOf(text);
        }
        return text.startsWith("'") ? Integer.valueOf(text.charAt(1)) : Integer.valueOf(text);
    }

    static String answer(DropSignals x, String name, String arguments) throws IllegalAccessException {
        Method m = method(name);
        String[] texts = arguments.isEmpty() ? new String[0] : arguments.split(", ");
        Object[] values = new Object[texts.length];
        for (int i = 0; i < values.length; i++) {
            values[i] = value(texts[i], m.getParameterTypes()[i]);
        }
        try {
            return "answers " + m.invoke(x, values);
        } catch (InvocationTargetException e) {
            return "throws " + e.getCause().getClass().getSimpleName();
        }
    }

    static void theExample() throws IOException, IllegalAccessException {
        says("README: the example");
        DropSignals evening = new DropSignals();
        Set<String> seen = new HashSet<>();
        for (String line : readme()) {
            if (line.startsWith("evening.")) {
                Matcher m = CALL.matcher(line);
                must("this line tells what its call answers or throws: " + line, m.matches());
                alike(line, m.group(3) + " " + m.group(4), answer(evening, m.group(1), m.group(2)));
                seen.add(m.group(3));
                seen.add(m.group(4));
            }
        }
        must("the example has answers and all exceptions", seen.containsAll(List.of("answers", "throws", ARGUMENT, INDEX, STATE)));
    }

    static void theTableOfCalls() throws IOException {
        says("README: the table of calls");
        Set<String> told = new TreeSet<>();
        for (String line : readme()) {
            Matcher m = ROW.matcher(line);
            if (m.matches()) {
                told.add(m.group(1) + "(" + types(m.group(2)) + ") " + exceptions(m.group(4)));
            }
        }
        Set<String> due = new TreeSet<>();
        for (Method m : DropSignals.class.getDeclaredMethods()) {
            if (Modifier.isPublic(m.getModifiers())) {
                due.add(m.getName() + "(" + names(m.getParameterTypes()) + ") " + names(m.getExceptionTypes()));
            }
        }
        alike("the table", due.toString(), told.toString());
    }

    static String types(String parameters) {
        List<String> types = new ArrayList<>();
        for (String parameter : parameters.split(", ")) {
            types.add(parameter.split(" ")[0]);
        }
        return String.join(",", types);
    }

    static String exceptions(String cell) {
        List<String> names = new ArrayList<>();
        Matcher m = EXCEPTION.matcher(cell);
        while (m.find()) {
            names.add(m.group(1));
        }
        return String.join(",", names);
    }

    static String names(Class<?>[] types) {
        List<String> names = new ArrayList<>();
        for (Class<?> type : types) {
            names.add(type.getSimpleName());
        }
        return String.join(",", names);
    }

    static void theCommandThatRunsTheTests() throws IOException {
        says("README: the command that runs the tests, and the files with them");
        String all = String.join("\n", readme());
        must("README names .ci/run", all.contains("\n.ci/run\n"));
        String[] files = Path.of("src/test/java").toFile().list();
        Arrays.sort(files);
        for (String file : files) {
            must("README names " + file, all.contains("`" + file.replace(".java", "") + "`"));
        }
    }

    public static void main(String[] args) throws Exception {
        says("README");
        theExample();
        theTableOfCalls();
        theCommandThatRunsTheTests();
        System.out.println("README: " + checks + " checks, " + wrong + " wrong");
        if (wrong != 0) {
            System.exit(1);
        }
    }
}
