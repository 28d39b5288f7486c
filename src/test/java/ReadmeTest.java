import java.io.IOException;
import java.lang.reflect.Method;
import java.lang.reflect.Modifier;
import java.nio.charset.StandardCharsets;
import java.nio.file.Files;
import java.nio.file.Path;
import java.util.Arrays;
import java.util.Set;
import java.util.TreeSet;
import java.util.regex.Matcher;
import java.util.regex.Pattern;

/** The examples in README.md: each call is made and must answer what stands beside it. */
public final class ReadmeTest {
    private static final String NEW_OBJECT = "FactorFreeWords words = new FactorFreeWords();";
    private static final Pattern CALL =
            Pattern.compile("words\\.(\\w+)\\(((?:-?\\d+(?:, -?\\d+)*)?)\\); +// (-?\\d+)(?:: .+)?");

    private static final Set<String> shown = new TreeSet<>();
    private static int wrong = 0;

    private static void complain(String what) {
        wrong++;
        System.out.println("README.md: " + what);
    }

    private static Object[] arguments(String list) {
        if (list.isEmpty()) {
            return new Object[0];
        }
        return Arrays.stream(list.split(", ")).map(Integer::valueOf).toArray();
    }

    private static long answer(FactorFreeWords words, String name, Object[] arguments)
            throws ReflectiveOperationException {
        Class<?>[] types = new Class<?>[arguments.length];
        Arrays.fill(types, int.class);
        Method method = FactorFreeWords.class.getMethod(name, types);
        return ((Number) method.invoke(words, arguments)).longValue();
    }

    private static void call(FactorFreeWords words, String line) throws ReflectiveOperationException {
        Matcher call = CALL.matcher(line);
        if (words == null || !call.matches()) {
            // A line that is passed over would not be tested.
            complain("neither a new object nor a call with its answer: " + line);
            return;
        }
        shown.add(call.group(1));
        Object[] arguments = arguments(call.group(2));
        long got = answer(words, call.group(1), arguments);
        if (got != Long.parseLong(call.group(3))) {
            complain(line + " (it answered " + got + ")");
        }
    }

    private static void runExamples() throws IOException, ReflectiveOperationException {
        boolean inExample = false;
        FactorFreeWords words = null;
        for (String line : Files.readAllLines(Path.of("README.md"), StandardCharsets.UTF_8)) {
            if (line.startsWith("```")) {
                inExample = line.equals("```java");
                words = null;
            } else if (inExample && line.equals(NEW_OBJECT)) {
                words = new FactorFreeWords();
            } else if (inExample && !line.isEmpty()) {
                call(words, line);
            }
        }
    }

    public static void main(String[] args) throws IOException, ReflectiveOperationException {
        runExamples();
        for (Method method : FactorFreeWords.class.getDeclaredMethods()) {
            if (Modifier.isPublic(method.getModifiers()) && !shown.contains(method.getName())) {
                complain("no example calls " + method.getName());
            }
        }
        System.out.println(wrong == 0 ? "the examples are as due" : wrong + " things are not as due");
        if (wrong != 0) {
            System.exit(1);
        }
    }
}
