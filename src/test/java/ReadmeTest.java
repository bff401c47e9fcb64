import java.io.IOException;
import java.lang.reflect.Method;
import java.lang.reflect.Modifier;
import java.nio.file.Files;
import java.nio.file.Path;
import java.util.regex.MatchResult;
import java.util.regex.Matcher;
import java.util.regex.Pattern;

/** README.md tells the truth: its example is called line by line, and its table has every call. */
public final class ReadmeTest {
    private static final Path README = Path.of("README.md");
    private static final Pattern TEXT = Pattern.compile("for \\(char c : \"([^\"]*)\"");
    private static final Pattern LINE = Pattern.compile("(?m)^x\\.(\\w+)\\(([^)]*)\\); *// (-?\\d+)");
    private static final int LINES_AT_LEAST = 7;

    private final Check check = new Check("ReadmeTest");
    private final BarredTurns x = new BarredTurns();

    public static void main(String[] args) throws IOException, ReflectiveOperationException {
        new ReadmeTest().run(Files.readString(README));
    }

    private void run(String readme) throws ReflectiveOperationException {
        Matcher text = TEXT.matcher(readme);
        check.holds("the example has a text", text.find());
        Check.write(x, text.group(1));
        int lines = 0;
        for (MatchResult line : LINE.matcher(readme).results().toList()) {
            check.due(line.group(), answer(line.group(1), line.group(2)), Long.parseLong(line.group(3)));
            lines++;
        }
        check.holds("the example has lines: " + lines, lines >= LINES_AT_LEAST);
        for (Method method : BarredTurns.class.getDeclaredMethods()) {
            if (Modifier.isPublic(method.getModifiers())) {
                check.holds("the table has " + method.getName(), isInTable(readme, method));
            }
        }
        check.end();
    }

    private long answer(String name, String arguments) throws ReflectiveOperationException {
        String[] texts = arguments.isEmpty() ? new String[0] : arguments.split(", ");
        Class<?>[] types = new Class<?>[texts.length];
        Object[] values = new Object[texts.length];
        for (int i = 0; i < texts.length; i++) {
            types[i] = int.class;
            values[i] = number(texts[i]);
        }
        return ((Number) BarredTurns.class.getMethod(name, types).invoke(x, values)).longValue();
    }

    /** A number as it is written in the example: in figures, or as a constant of the class. */
    private static int number(String text) throws ReflectiveOperationException {
        String constant = "BarredTurns.";
        if (text.startsWith(constant)) {
            return BarredTurns.class.getField(text.substring(constant.length())).getInt(null);
        }
        return Integer.parseInt(text);
    }

    /** A row of the table begins with calls; each has as many parameters as the method. */
    private static boolean isInTable(String readme, Method method) {
        int parameters = method.getParameterCount();
        String list = parameters == 0 ? "" : "\\w+" + ", \\w+".repeat(parameters - 1);
        return Pattern.compile("(?m)^\\| [^|]*`" + method.getName() + "\\(" + list + "\\)`").matcher(readme).find();
    }
}
