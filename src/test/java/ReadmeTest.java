import java.io.IOException;
import java.lang.reflect.InvocationTargetException;
import java.lang.reflect.Method;
import java.nio.file.Files;
import java.nio.file.Path;
import java.util.HashMap;
import java.util.List;
import java.util.Map;
import java.util.regex.Matcher;
import java.util.regex.Pattern;

/** The example of README.md, line by line: each call gives what the remark behind it says. */
public final class ReadmeTest extends Checks {
    private static final Pattern LINE = Pattern.compile(
        "(?:\\w+ (\\w+) = )?(?:new CutoffMill|mill\\.(\\w+))\\(([^)]*)\\);\\s*(?:// (?:-> ([-\\w.]+)|throws (\\w+)).*)?");
    private static final Map<String, Object> known = new HashMap<>();
    private static CutoffMill mill;
    private static int calls = 0;

    public static void main(String[] args) throws IOException, IllegalAccessException {
        part = "README.md";
        boolean isExample = false;
        List<String> lines = Files.readAllLines(Path.of("README.md"));
        for (String line : lines) {
            if (line.startsWith("```")) {
                isExample = line.equals("```java");
            } else if (isExample && !line.isEmpty() && !line.startsWith("//")) {
                follow(line);
            }
        }
        same("whether the example was found", calls > 20, true);
        end();
    }

    private static void follow(String line) throws IllegalAccessException {
        Matcher parts = LINE.matcher(line);
        boolean isRead = parts.matches();
        same("whether it is a call: " + line, isRead, true);
        if (!isRead) return;
        if (parts.group(2) == null) {
            mill = new CutoffMill();
            return;
        }
        calls++;
        String due = parts.group(4) != null ? parts.group(4) : parts.group(5);
        String got = answer(parts.group(2), parts.group(3), parts.group(1));
        same(line.trim() + " answered " + got, got.equals(due), true);
    }

    /** What the call answers, or the name of what it throws; the answer is known by its name then. */
    private static String answer(String name, String inputs, String variable) throws IllegalAccessException {
        String[] words = inputs.isEmpty() ? new String[0] : inputs.split(", ");
        Object[] values = new Object[words.length];
        for (int k = 0; k < words.length; k++) values[k] = value(words[k]);
        for (Method method : CutoffMill.class.getMethods()) {
            if (!method.getName().equals(name)) continue;
            try {
                Object answer = method.invoke(mill, values);
                if (variable != null) known.put(variable, answer);
                return String.valueOf(answer);
            } catch (InvocationTargetException e) {
                return e.getCause().getClass().getSimpleName();
            }
        }
        return "no such call";
    }

    private static Object value(String word) {
        if (known.containsKey(word)) return known.get(word);
        if (word.equals("true") || word.equals("false")) return Boolean.valueOf(word);
        return Integer.valueOf(word);
    }
}
