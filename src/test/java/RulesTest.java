import java.io.IOException;
import java.nio.file.Files;
import java.nio.file.Path;
import java.util.Map;
import java.util.Set;
import java.util.TreeMap;
import java.util.TreeSet;
import java.util.regex.Matcher;
import java.util.regex.Pattern;

/** The bounds that LANGUAGE.md sets to the text of the class; it is read as text, from the project's root. */
public final class RulesTest {
    private static final Path SOURCE = Path.of("src/main/java/BarredTurns.java");
    private static final Pattern COMMENT = Pattern.compile("/\\*.*?\\*/|//[^\\n]*", Pattern.DOTALL);
    private static final Pattern METHOD =
            Pattern.compile("\\n +(?:public |private |static )*(?:int|long|boolean|void) (\\w+)\\(([^)]*)\\) \\{");
    private static final Pattern CALL = Pattern.compile("\\b(\\w+)\\(");
    private static final Pattern REFUSED =
            Pattern.compile("\\b(?:throw|try|catch|synchronized|assert)\\b|->|::");
    private static final Pattern CLASS = Pattern.compile("\\b(?:class|record|enum|interface) \\w+");
    private static final int RECURSION = 1000;

    /** The names that are called by the methods of a name. */
    private final Map<String, Set<String>> calls = new TreeMap<>();
    private final Check check = new Check("RulesTest");

    public static void main(String[] args) throws IOException {
        new RulesTest().run(COMMENT.matcher(Files.readString(SOURCE)).replaceAll(""));
    }

    private void run(String text) {
        check.of("rule 6: No throw, try, catch, synchronized, assert; rule 2: no lambda, no method reference");
        check.holds("none of these", !REFUSED.matcher(text).find());
        check.of("rule 11: at most some twelve classes");
        long classes = CLASS.matcher(text).results().count();
        check.holds(classes + " classes", classes <= 12);
        Matcher method = METHOD.matcher(text);
        while (method.find()) {
            look(method.group(1), method.group(2), bodyFrom(text, method.end()));
        }
        check.of("rule 11: calls that are no recursion go at most eight deep");
        check.holds("methods were found: " + calls.size(), calls.size() > 23);
        for (String name : calls.keySet()) {
            int depth = depth(name, 1);
            check.holds(name + " goes " + depth + " deep", depth <= 8);
        }
        check.end();
    }

    private void look(String name, String parameters, String body) {
        check.of("rule 11: A method takes at most seven parameters. Methods stay short (some sixty lines)");
        check.holds(name + " takes " + parameters, parameters.split(",").length <= 7);
        long lines = body.lines().count() + 1;
        check.holds(name + " has " + lines + " lines", lines <= 60);
        Set<String> called = calls.computeIfAbsent(name, none -> new TreeSet<>());
        CALL.matcher(body).results().forEach(call -> called.add(call.group(1)));
    }

    /** What stands between the brace ahead of a place and the one that closes it. */
    private static String bodyFrom(String text, int begin) {
        int open = 1;
        int end = begin;
        while (open > 0) {
            char sign = text.charAt(end);
            open += sign == '{' ? 1 : sign == '}' ? -1 : 0;
            end++;
        }
        return text.substring(begin, end);
    }

    /** How many calls stand open at once at most, the first one counted: names that are alike are taken as one. */
    private int depth(String name, int level) {
        if (level > 40) {
            return RECURSION;
        }
        int deepest = 0;
        for (String called : calls.get(name)) {
            if (calls.containsKey(called)) {
                deepest = Math.max(deepest, depth(called, level + 1));
            }
        }
        return deepest + 1;
    }
}
