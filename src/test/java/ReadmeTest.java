import java.io.IOException;
import java.lang.reflect.InvocationTargetException;
import java.lang.reflect.Method;
import java.nio.file.Files;
import java.nio.file.Path;
import java.util.HashMap;
import java.util.Map;
import java.util.regex.Matcher;
import java.util.regex.Pattern;

/** The examples of README.md, line by line: each call answers what stands behind it. */
public final class ReadmeTest {
    private static final String START = "DerivativeCompiler compiler = new DerivativeCompiler();";
    private static final Pattern BLOCK = Pattern.compile("(?s)```java\n(.*?)```");
    private static final Pattern LINE = Pattern.compile(
            "(?:int (\\w+) = )?compiler\\.(\\w+)\\(([^()]*)\\);(?:\\s+// (.*))?");
    private static final Pattern ANSWER = Pattern.compile("(-?\\d+|REFUSED|NONE)(?:: .*)?");
    /** Fewer answers than these would mean that the examples are not read. */
    private static final int ENOUGH_ANSWERS = 25;

    private final Check check;
    private final DerivativeCompiler compiler = new DerivativeCompiler();
    private final Map<String, Long> numbers = new HashMap<>();

    private ReadmeTest(Check check) {
        this.check = check;
        numbers.put("REFUSED", -1L);
        numbers.put("NONE", -1000000000000000000L);
    }

    public static void main(String[] args) throws IOException, ReflectiveOperationException {
        Check check = new Check("README.md");
        Matcher block = BLOCK.matcher(Files.readString(Path.of("README.md")));
        while (block.find()) {
            ReadmeTest example = new ReadmeTest(check);
            String[] lines = block.group(1).split("\n");
            check.due("an example's first line", lines[0].equals(START) ? 1 : 0, 1);
            for (int i = 1; i < lines.length; i++) {
                example.follow(lines[i]);
            }
        }
        check.due("enough answers, with " + check.answers(), check.answers() >= ENOUGH_ANSWERS ? 1 : 0, 1);
        check.finish();
    }

    private void follow(String text) throws ReflectiveOperationException {
        Matcher line = LINE.matcher(text);
        if (!line.matches()) {
            check.due("a line that can be read: " + text, 0, 1);
            return;
        }
        long answer = call(line.group(2), line.group(3));
        if (line.group(1) != null) {
            numbers.put(line.group(1), answer);
            check.due(text + " is not refused", answer == -1 ? 1 : 0, 0);
        }
        Matcher due = ANSWER.matcher(line.group(4) == null ? "" : line.group(4));
        if (due.matches()) {
            check.due(text, answer, number(due.group(1)));
        } else {
            check.due("a name or an answer: " + text, line.group(1) == null ? 0 : 1, 1);
        }
    }

    private long call(String name, String words) throws IllegalAccessException, InvocationTargetException {
        String[] arguments = words.isEmpty() ? new String[0] : words.split(", ");
        for (Method method : DerivativeCompiler.class.getMethods()) {
            if (method.getName().equals(name)) {
                Object[] values = new Object[arguments.length];
                for (int i = 0; i < values.length; i++) {
                    long value = number(arguments[i]);
                    boolean isLong = method.getParameterTypes()[i] == long.class;
                    values[i] = isLong ? (Object) value : (Object) (int) value;
                }
                return ((Number) method.invoke(compiler, values)).longValue();
            }
        }
        check.due("a call " + name, 0, 1);
        return -1;
    }

    private long number(String word) {
        return numbers.containsKey(word) ? numbers.get(word) : Long.parseLong(word);
    }
}
