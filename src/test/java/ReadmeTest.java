import java.io.IOException;
import java.lang.reflect.Method;
import java.nio.file.Files;
import java.nio.file.Path;
import java.util.HashMap;
import java.util.HashSet;
import java.util.Map;
import java.util.Set;
import java.util.regex.Matcher;
import java.util.regex.Pattern;

/**
 * The calls that README.md shows, in its blocks of Java and in their order, with the answers that stand behind them.
 * A line that can't be read as one of these fails too, so that nothing is shown that isn't looked at.
 */
public final class ReadmeTest {
    private static final Pattern NEW = Pattern.compile("LiftFactors (\\w+) = new LiftFactors\\(\\);");
    private static final Pattern CALL =
            Pattern.compile("(?:(\\w+) (\\w+) = )?(\\w+)\\.(\\w+)\\((.*)\\); +// ([^:]+)(: .+)?");

    private static final Map<String, LiftFactors> OBJECTS = new HashMap<>();
    private static final Map<String, Integer> NUMBERS = new HashMap<>();
    private static final Set<String> SHOWN = new HashSet<>();

    public static void main(String[] args) throws IOException {
        boolean inside = false;
        for (String line : Files.readAllLines(Path.of("README.md"))) {
            if (line.startsWith("```")) {
                inside = line.equals("```java");
            } else if (inside) {
                look(line);
            }
        }
        for (Method method : LiftFactors.class.getMethods()) {
            if (method.getDeclaringClass() == LiftFactors.class) {
                Check.yes("README.md shows " + method.getName(), SHOWN.contains(method.getName()));
            }
        }
        Check.end();
    }

    private static void look(String line) {
        Matcher made = NEW.matcher(line);
        Matcher call = CALL.matcher(line);
        if (made.matches()) {
            Check.yes("a new name in " + line, OBJECTS.put(made.group(1), new LiftFactors()) == null);
        } else if (call.matches() && OBJECTS.containsKey(call.group(3))) {
            answer(line, call);
        } else {
            Check.yes("README.md's line can be read: " + line, false);
        }
    }

    private static void answer(String line, Matcher shown) {
        Call call = new Call(shown.group(4), arguments(shown.group(5)));
        SHOWN.add(call.name());
        String got = call.of(OBJECTS.get(shown.group(3)));
        Check.same(line, got, shown.group(6));
        if (shown.group(1) != null) {
            Check.same("the type in " + line, shown.group(1), call.answerType().getName());
            Check.yes("a new name in " + line, NUMBERS.put(shown.group(2), Integer.valueOf(got)) == null);
        }
    }

    private static int[] arguments(String list) {
        String[] words = list.isEmpty() ? new String[0] : list.split(", ");
        int[] numbers = new int[words.length];
        for (int k = 0; k < words.length; k++) {
            numbers[k] = NUMBERS.containsKey(words[k]) ? NUMBERS.get(words[k]) : Integer.parseInt(words[k]);
        }
        return numbers;
    }
}
