import java.lang.reflect.Method;
import java.nio.file.Files;
import java.nio.file.Path;
import java.util.Map;
import java.util.TreeMap;
import java.util.regex.Matcher;
import java.util.regex.Pattern;

/** The calls that README.md shows, made one by one: each must answer what stands behind it there. */
public final class ReadmeTest {
    private static final Pattern CALL = Pattern.compile("ways\\.(\\w+)\\(([^)]*)\\); +// (-?\\d+): .*");
    private static final int LEAST_CALLS = 20;
    private static int wrong = 0;

    public static void main(String[] args) throws Exception {
        String readme = Files.readString(Path.of("README.md"));
        Matcher blocks = Pattern.compile("(?s)```java\n(.*?)```").matcher(readme);
        int calls = 0;
        while (blocks.find()) {
            calls += run(blocks.group(1));
        }
        if (calls < LEAST_CALLS) {
            fault("README.md shows " + calls + " calls alone");
        }
        System.out.println(wrong == 0 ? "README.md shows what is answered" : wrong + " faults");
        System.exit(wrong == 0 ? 0 : 1);
    }

    private static int run(String block) throws Exception {
        JoinWays ways = new JoinWays();
        int calls = 0;
        for (String line : block.split("\n")) {
            Matcher call = CALL.matcher(line);
            if (call.matches()) {
                long got = answer(ways, call.group(1), call.group(2));
                if (got != Long.parseLong(call.group(3))) {
                    fault(line + " answered " + got);
                }
                calls++;
            } else if (!line.isBlank() && !line.equals("JoinWays ways = new JoinWays();")) {
                fault("a line that is no call with its answer: " + line);
            }
        }
        return calls;
    }

    private static long answer(JoinWays ways, String name, String told) throws Exception {
        Map<String, Method> face = new TreeMap<>();
        for (Method method : JoinWays.class.getDeclaredMethods()) {
            face.put(method.getName(), method);
        }
        Method method = face.get(name);
        Class<?>[] types = method.getParameterTypes();
        String[] words = told.isBlank() ? new String[0] : told.split(", ");
        Object[] values = new Object[words.length];
        for (int k = 0; k < words.length; k++) {
            long number = number(words[k]);
            if (types[k] == long.class) {
                values[k] = number;
            } else {
                values[k] = (int) number;
            }
        }
        return ((Number) method.invoke(ways, values)).longValue();
    }

    private static long number(String word) {
        if (word.equals("JoinWays.NONE")) {
            return JoinWays.NONE;
        }
        if (word.startsWith("0b")) {
            return Long.parseLong(word.substring(2), 2);
        }
        return Long.decode(word.endsWith("L") ? word.substring(0, word.length() - 1) : word);
    }

    private static void fault(String what) {
        wrong++;
        System.out.println(what);
    }
}
