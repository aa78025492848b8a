import java.nio.file.Files;
import java.nio.file.Path;
import java.util.HashMap;
import java.util.HashSet;
import java.util.List;
import java.util.Map;
import java.util.Set;
import java.util.TreeMap;
import java.util.regex.Matcher;
import java.util.regex.Pattern;

/** LANGUAGE.md, rule 11: who calls whom, read from the text; calls that are no recursion go at most eight deep. */
public final class DepthTest {
    private static final Due DUE = new Due("DepthTest");
    private static final int DEEPEST = 8;
    private static final String OUTSIDE = "OutByTurns";
    private static final Set<String> RECURSIVE = Set.of("Text.joined", "Text.single", "Text.bracketed",
        "Acts.from", "Acts.own", "Acts.plain", "Acts.more");
    private static final Pattern CLASS = Pattern.compile("^ {4}private static final class (\\w+) \\{");
    private static final Pattern FIELD = Pattern.compile("^ {4,8}private final (\\w+) (\\w+)(;| = new)");
    private static final Pattern METHOD = Pattern.compile("^( {4}| {8})(?:(?:public|private|static) )*[\\w\\[\\]]+ (\\w+)\\((.*)\\) \\{");
    private static final Pattern MADE = Pattern.compile("^( {4}| {8})(?:public )?[A-Z]\\w*\\(.*\\) \\{");
    private static final Pattern CALL = Pattern.compile("(?:(\\w+)\\.)?\\b(\\w+)\\(");

    private final Map<String, String> bodies = new TreeMap<>();
    private final Map<String, String> parameters = new HashMap<>();
    // By class and name of a field: its type.
    private final Map<String, String> types = new HashMap<>();
    private final Map<String, Set<String>> calls = new TreeMap<>();
    private final Map<String, Set<String>> reached = new HashMap<>();
    private final Map<String, Integer> depths = new HashMap<>();

    public static void main(String[] args) throws Exception {
        DepthTest test = new DepthTest();
        test.read(Files.readAllLines(Path.of("src/main/java/OutByTurns.java")));
        test.link();
        test.ask();
        DUE.end();
    }

    private void read(List<String> lines) {
        String inside = OUTSIDE;
        String method = "";
        for (String line : lines) {
            Matcher begun = CLASS.matcher(line);
            Matcher field = FIELD.matcher(line);
            Matcher declared = METHOD.matcher(line);
            if (begun.find()) {
                inside = begun.group(1);
            } else if (field.find()) {
                types.put(inside + "." + field.group(2), field.group(1));
            } else if (declared.find()) {
                method = inside + "." + declared.group(2);
                bodies.put(method, "");
                parameters.put(method, declared.group(3));
            } else if (MADE.matcher(line).find()) {
                method = "";
            } else if (!method.isEmpty() && !line.strip().startsWith("//") && !line.strip().startsWith("*")) {
                bodies.merge(method, line.replaceAll("'.'|\"[^\"]*\"|/\\*.*", "") + "\n", String::concat);
            }
        }
    }

    private void link() {
        for (String method : bodies.keySet()) {
            String inside = method.substring(0, method.indexOf('.'));
            Set<String> called = new HashSet<>();
            Matcher call = CALL.matcher(bodies.get(method));
            while (call.find()) {
                String owner = call.group(1) == null ? inside : ownerOf(call.group(1), inside, parameters.get(method));
                if (bodies.containsKey(owner + "." + call.group(2))) {
                    called.add(owner + "." + call.group(2));
                }
            }
            calls.put(method, called);
        }
        for (String method : calls.keySet()) {
            Set<String> seen = new HashSet<>();
            reach(method, seen);
            reached.put(method, seen);
        }
    }

    private String ownerOf(String receiver, String inside, String parameters) {
        Matcher parameter = Pattern.compile("(\\w+) " + receiver + "\\b").matcher(parameters);
        return parameter.find() ? parameter.group(1) : types.getOrDefault(inside + "." + receiver, receiver);
    }

    private void reach(String method, Set<String> seen) {
        for (String called : calls.get(method)) {
            if (seen.add(called)) {
                reach(called, seen);
            }
        }
    }

    private boolean together(String one, String other) {
        return one.equals(other) || reached.get(one).contains(other) && reached.get(other).contains(one);
    }

    /** Methods that call one another count as one call. */
    private int depth(String method) {
        if (!depths.containsKey(method)) {
            int below = 0;
            for (String one : calls.keySet()) {
                for (String called : together(method, one) ? calls.get(one) : Set.<String>of()) {
                    below = Math.max(below, together(method, called) ? 0 : depth(called));
                }
            }
            depths.put(method, below + 1);
        }
        return depths.get(method);
    }

    private void ask() {
        Set<String> recursive = new HashSet<>();
        for (String method : calls.keySet()) {
            if (reached.get(method).contains(method)) {
                recursive.add(method);
            }
            DUE.holds(method + " goes at most eight deep: " + depth(method), depth(method) <= DEEPEST);
        }
        DUE.holds("those that call themselves are " + recursive, recursive.equals(RECURSIVE));
        // So it is seen that the text was read at all.
        DUE.holds("the tape is read by drop()", reached.get(OUTSIDE + ".drop").contains("Text.number"));
        DUE.holds("the image is kept by image()", reached.get(OUTSIDE + ".image").contains("Jumps.become"));
        DUE.holds("super is found by act()", reached.get(OUTSIDE + ".act").contains("Acts.more"));
    }
}
