import java.io.File;
import java.lang.reflect.Method;
import java.nio.file.Files;
import java.nio.file.Path;
import java.util.HashMap;
import java.util.List;
import java.util.Map;
import java.util.regex.Matcher;
import java.util.regex.Pattern;

/** README.md's examples are one run, and answer what stands behind them. */
public final class ReadmeTest {
    private static final Due DUE = new Due("ReadmeTest");
    private static final Pattern EXAMPLE = Pattern.compile("^drop\\.(\\w+)\\((.*)\\); +// (-?\\d+|[A-Z]+)(:.*)?$");

    public static void main(String[] args) throws Exception {
        Map<String, Method> calls = new HashMap<>();
        for (Method method : OutByTurns.class.getDeclaredMethods()) {
            calls.put(method.getName(), method);
        }
        String readme = Files.readString(Path.of("README.md"));
        examples(readme.lines().toList(), calls);
        everyTestIsNamed(readme);
        DUE.end();
    }

    private static void examples(List<String> lines, Map<String, Method> calls) throws ReflectiveOperationException {
        OutByTurns drop = new OutByTurns();
        int examples = 0;
        for (String line : lines) {
            Matcher example = EXAMPLE.matcher(line);
            if (example.matches()) {
                examples++;
                Method call = calls.get(example.group(1));
                long answer = ((Number) call.invoke(drop, arguments(call, example.group(2)))).longValue();
                String due = example.group(3);
                DUE.is(line, answer, Character.isLetter(due.charAt(0))
                    ? OutByTurns.class.getField(due).getInt(null) : Long.parseLong(due));
            } else {
                DUE.holds("can be read as an example: " + line, !line.startsWith("drop."));
            }
        }
        DUE.holds("there are examples: " + examples, examples > 0);
    }

    private static void everyTestIsNamed(String readme) {
        for (String name : new File("tests").list()) {
            if (name.endsWith("Test.java")) {
                String test = name.substring(0, name.length() - 5);
                DUE.holds("README.md tells what it is about: " + test, readme.contains("\n| " + test + " | "));
            }
        }
    }

    private static Object[] arguments(Method call, String told) {
        String[] words = told.isEmpty() ? new String[0] : told.split(", ");
        Object[] arguments = new Object[words.length];
        for (int i = 0; i < words.length; i++) {
            int v = words[i].charAt(0) == '\'' ? words[i].charAt(1) : Integer.parseInt(words[i]);
            boolean wide = call.getParameterTypes()[i] == long.class;
            arguments[i] = wide ? (Object) (long) v : (Object) v;
        }
        return arguments;
    }
}
