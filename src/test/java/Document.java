import java.io.IOException;
import java.io.UncheckedIOException;
import java.nio.charset.StandardCharsets;
import java.nio.file.Files;
import java.nio.file.Path;
import java.util.BitSet;
import java.util.LinkedHashMap;
import java.util.Map;

/** The document's own words, part by part, and which of them the tests have quoted. */
final class Document {
    private static final Path FILE = Path.of("../shared/DOC.md");
    private static final Map<String, String> PARTS = parts();
    private static final Map<String, BitSet> QUOTED = new LinkedHashMap<>();

    private Document() {
    }

    private static Map<String, String> parts() {
        Map<String, String> parts = new LinkedHashMap<>();
        String part = "";
        try {
            for (String line : Files.readAllLines(FILE, StandardCharsets.UTF_8)) {
                if (line.startsWith("## ")) {
                    part = line.substring(3).replaceAll(":.*", "");
                } else if (isBinding(part, line)) {
                    parts.merge(part, wordsOf(line), String::concat);
                }
            }
        } catch (IOException e) {
            throw new UncheckedIOException(e);
        }
        return parts;
    }

    private static boolean isBinding(String part, String line) {
        return part.matches("Terms|Promise \\d+") && !line.startsWith("```") && !line.startsWith("Ahead of the calls");
    }

    /** A line without its mark of a group, or the call's own heading, which FaceTest looks at. */
    private static String wordsOf(String line) {
        return line.replaceAll("^=+ \\d+ ", "").replaceAll("^`int [^`]*`: ", "").strip() + " ";
    }

    static void quote(String part, String sentence) {
        String words = PARTS.getOrDefault(part, "");
        int at = words.indexOf(sentence);
        if (at < 0 || words.indexOf(sentence, at + 1) >= 0) {
            Check.fail(part + " has not once: '" + sentence + "'");
            return;
        }
        QUOTED.computeIfAbsent(part, p -> new BitSet()).set(at, at + sentence.length());
    }

    /** Fails for each run of words that no test has quoted. */
    static void isAllQuoted() {
        Check.due("parts of the document", PARTS.size(), 31);
        for (Map.Entry<String, String> part : PARTS.entrySet()) {
            BitSet quoted = QUOTED.getOrDefault(part.getKey(), new BitSet());
            String words = part.getValue();
            for (int from = quoted.nextClearBit(0); from < words.length(); ) {
                int to = quoted.nextSetBit(from);
                String left = words.substring(from, to < 0 ? words.length() : to);
                Check.due(part.getKey() + ", not quoted: '" + left + "'", left.matches("[^A-Za-z0-9]*") ? 0 : 1, 0);
                from = to < 0 ? words.length() : quoted.nextClearBit(to);
            }
        }
    }
}
