import java.io.IOException;
import java.lang.reflect.Method;
import java.nio.file.Files;
import java.nio.file.Path;
import java.util.regex.Matcher;
import java.util.regex.Pattern;

/** The example in README.md answers as its comments say. */
public final class ReadmeTests {
    private static final Pattern CALL = Pattern.compile("x\\.(\\w+)\\((.*)\\); +// (-?\\d+): .*");

    public static void main(String[] args) throws IOException, ReflectiveOperationException {
        String readme = Files.readString(Path.of("README.md"));
        String[] lines = readme.split("```")[1].split("\n");
        TableLearner x = new TableLearner();
        int wrong = 0;
        // The first line is the word java, the second makes the object.
        for (int i = 2; i < lines.length; i++) {
            Matcher call = CALL.matcher(lines[i]);
            boolean isCall = call.matches();
            long got = isCall ? answer(x, call.group(1), call.group(2)) : 0;
            if (!isCall || got != Long.parseLong(call.group(3))) {
                wrong++;
                System.out.println(isCall ? lines[i] + " answered " + got : "not understood: " + lines[i]);
            }
        }
        if (lines.length < 10) {
            wrong++;
            System.out.println("README.md has no example");
        }
        System.out.println(wrong == 0 ? "all answers are as due" : wrong + " answers are not as due");
        if (wrong != 0) System.exit(1);
    }

    private static long answer(TableLearner x, String name, String arguments)
            throws ReflectiveOperationException {
        for (Method method : TableLearner.class.getMethods()) {
            if (method.getName().equals(name)) {
                return ((Number) method.invoke(x, values(arguments))).longValue();
            }
        }
        throw new NoSuchMethodException(name);
    }

    private static Object[] values(String arguments) {
        if (arguments.isEmpty()) return new Object[0];
        String[] parts = arguments.split(", ");
        Object[] values = new Object[parts.length];
        for (int i = 0; i < parts.length; i++) {
            values[i] = parts[i].matches("true|false") ? (Object) Boolean.valueOf(parts[i])
                    : parts[i].startsWith("'") ? (Object) (int) parts[i].charAt(1)
                    : (Object) Integer.valueOf(parts[i]);
        }
        return values;
    }
}
