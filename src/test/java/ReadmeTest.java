import java.io.IOException;
import java.lang.reflect.Method;
import java.nio.file.Files;
import java.nio.file.Path;
import java.util.HashMap;
import java.util.Map;
import java.util.Set;
import java.util.TreeSet;
import java.util.regex.Matcher;
import java.util.regex.Pattern;

/** Each call in README.md answers what the README says behind it, and each method is called there. */
public final class ReadmeTest {
    private static final String START = "```java\n";
    private static final String NEW = "MaterialPassports x = new MaterialPassports();";
    private static final Pattern CALL
            = Pattern.compile("(?:int (\\w+) = )?x\\.(\\w+)\\((.*?)\\); +// ([-\\w]+)(?:: .+)?");

    private final MaterialPassports x = new MaterialPassports();
    private final Map<String, Long> names = new HashMap<>();
    private final Set<String> called = new TreeSet<>();

    public static void main(String[] args) throws IOException, ReflectiveOperationException {
        String readme = Files.readString(Path.of("README.md"));
        int start = readme.indexOf(START) + START.length();
        String[] lines = readme.substring(start, readme.indexOf("```", start)).split("\n");
        Due.is("it begins with a new object", lines[0].equals(NEW), true);
        ReadmeTest test = new ReadmeTest();
        for (int at = 1; at < lines.length; at++) {
            if (!lines[at].isEmpty()) {
                test.follow(lines[at]);
            }
        }
        for (Method method : MaterialPassports.class.getMethods()) {
            if (method.getDeclaringClass() == MaterialPassports.class) {
                Due.is(method.getName() + " is called", test.called.contains(method.getName()), true);
            }
        }
        Due.end();
    }

    private void follow(String line) throws ReflectiveOperationException {
        Matcher call = CALL.matcher(line);
        if (!call.matches()) {
            Due.is("a call with its answer: " + line, false, true);
            return;
        }
        called.add(call.group(2));
        String answer = answer(call.group(2), call.group(3));
        Due.is(line + " [" + answer + "]", answer.equals(call.group(4)), true);
        if (call.group(1) != null) {
            names.put(call.group(1), Long.valueOf(answer));
        }
    }

    private String answer(String name, String arguments) throws ReflectiveOperationException {
        String[] words = arguments.isEmpty() ? new String[0] : arguments.split(", ");
        for (Method method : MaterialPassports.class.getMethods()) {
            if (method.getName().equals(name) && method.getParameterCount() == words.length) {
                Object[] values = new Object[words.length];
                for (int at = 0; at < words.length; at++) {
                    values[at] = value(words[at], method.getParameterTypes()[at]);
                }
                return String.valueOf(method.invoke(x, values));
            }
        }
        return "no such call";
    }

    private Object value(String word, Class<?> type) {
        if (type == boolean.class) {
            return Boolean.valueOf(word);
        }
        long number = word.startsWith("'") ? word.charAt(1)
                : names.containsKey(word) ? names.get(word) : Long.parseLong(word);
        if (type == long.class) {
            return number;
        }
        return Math.toIntExact(number);
    }
}
