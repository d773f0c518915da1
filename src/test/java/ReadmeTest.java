import java.lang.reflect.Method;
import java.nio.file.Files;
import java.nio.file.Path;
import java.util.HashMap;
import java.util.Map;
import java.util.regex.Matcher;
import java.util.regex.Pattern;

/** The examples of README.md: each call there is made, and must answer what stands behind it. */
public final class ReadmeTest {
    private static final Pattern BLOCK = Pattern.compile("(?s)```java\n(.*?)```");
    private static final Pattern CALL =
            Pattern.compile("(?:int (\\w+) = )?x\\.(\\w+)\\(([^)]*)\\); +// (-?\\d+)(:.*|)?");

    private static final Due due = new Due();
    private static final Map<String, Integer> names = new HashMap<>();
    private static OneSelf x = null;
    private static int calls = 0;

    public static void main(String[] args) throws Exception {
        String text = Files.readString(Path.of(System.getProperty("oneself.root"), "README.md"));
        Matcher blocks = BLOCK.matcher(text);
        while (blocks.find()) {
            for (String line : blocks.group(1).split("\n")) {
                run(line);
            }
        }
        due.isTrue("there are examples: " + calls, calls > 40);
        due.end();
    }

    private static void run(String line) throws Exception {
        if (line.equals("OneSelf x = new OneSelf();")) {
            x = new OneSelf();
            return;
        }
        Matcher call = CALL.matcher(line);
        boolean isCall = call.matches();
        due.isTrue("a call and its answer: " + line, isCall);
        if (!isCall) return;
        Method method = methodOf(call.group(2));
        String[] told = call.group(3).isEmpty() ? new String[0] : call.group(3).split(", ");
        Object[] values = new Object[told.length];
        for (int k = 0; k < told.length; k++) {
            values[k] = valueOf(told[k]);
        }
        long answer = ((Number) method.invoke(x, values)).longValue();
        due.is(line, answer, Long.parseLong(call.group(4)));
        if (call.group(1) != null) names.put(call.group(1), (int) answer);
        calls++;
    }

    private static Method methodOf(String name) {
        for (Method each : OneSelf.class.getMethods()) {
            if (each.getName().equals(name)) return each;
        }
        throw new IllegalStateException("README.md calls " + name + ", which there is not");
    }

    private static Object valueOf(String told) {
        if (told.equals("true") || told.equals("false")) return told.equals("true");
        if (told.matches("'.'")) return (int) told.charAt(1);
        Integer named = names.get(told);
        return named != null ? named : Integer.valueOf(told);
    }
}
