import java.io.IOException;
import java.nio.file.Files;
import java.nio.file.Path;
import java.util.BitSet;
import java.util.Map;
import java.util.TreeMap;
import java.util.regex.Matcher;
import java.util.regex.Pattern;

/** The document's sentences, each asked for by its own words; tells which of those that name a bound were not. */
final class Says {
    private static final Pattern BOUND = Pattern.compile("\\d+|\\b(BAD|NOT|FULL|STATE|VOID|MIN_VALUE|none|nobody|nothing"
        + "|somebody|missing|wraps?|empty|least|most|else|more|fewer|first|ends)\\b");

    private final Due due = new Due("BoundariesTest");
    private final Map<String, String> sections = new TreeMap<>();
    private final Map<String, BitSet> quoted = new TreeMap<>();
    private String sentence = "";
    private boolean asked = true;

    Says(Path document) throws IOException {
        String section = "";
        for (String line : Files.readAllLines(document)) {
            if (line.startsWith("======== ")) {
                section = "part " + line.charAt(9);
                line = line.substring(10);
            } else if (line.startsWith("## ")) {
                section = line.startsWith("## Promise ") ? "promise " + line.substring(11, line.indexOf(':')) : "";
                continue;
            }
            // The signatures of the calls, and their names in part 5, are FaceTest's.
            sections.merge(section, line.replaceAll("`[^`]*`", "") + "\n", String::concat);
        }
        sections.remove("");
        sections.keySet().forEach(name -> quoted.put(name, new BitSet()));
    }

    void part(int number, String words) {
        quote("part " + number, words);
    }

    void promise(int number, String words) {
        quote("promise " + number, words);
    }

    private void quote(String section, String words) {
        due.holds("asked for: " + sentence, asked);
        sentence = section + ", " + words;
        asked = false;
        String text = sections.getOrDefault(section, "");
        int at = text.indexOf(words);
        due.holds("the document says in " + sentence, at >= 0);
        if (at >= 0) {
            quoted.get(section).set(at, at + words.length());
        }
    }

    void is(String call, long got, long want) {
        asked = true;
        due.is(sentence + ": " + call, got, want);
    }

    void holds(String what, boolean so) {
        is(what, so ? 1 : 0, 1);
    }

    void end() {
        due.holds("asked for: " + sentence, asked);
        due.is("parts and promises", sections.size(), 5 + 44);
        for (Map.Entry<String, String> section : sections.entrySet()) {
            String text = section.getValue();
            Matcher bound = BOUND.matcher(text);
            while (bound.find()) {
                String around = text.substring(Math.max(0, bound.start() - 40), Math.min(text.length(), bound.end() + 40));
                due.holds("asked for in " + section.getKey() + ": .." + around.strip() + "..",
                    quoted.get(section.getKey()).get(bound.start()));
            }
        }
        due.end();
    }
}
