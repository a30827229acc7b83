import java.io.IOException;
import java.nio.file.Files;
import java.nio.file.Path;
import java.util.LinkedHashMap;
import java.util.Map;
import java.util.regex.Matcher;
import java.util.regex.Pattern;

/**
 * The document's own words. A test of a boundary names the sentence that it holds the class to;
 * at the end every sentence that names a boundary must have been named by a test.
 */
final class Document {
    private static final Path TEXT = Path.of("..", "shared", "DOC.md");
    private static final Pattern PART = Pattern.compile("======== (\\d) (.*)");
    private static final Pattern PROMISE = Pattern.compile("## (Promise \\d+): .*");
    /** Words by which a boundary is told. */
    private static final Pattern BOUNDARY = Pattern.compile("\\b(BAD|STATE|FULL|NONE|NULL|PLACE|SIZE|STORE|KIND|most"
        + "|least|lowest|below|above|beyond|less|more|ahead|behind|none|first|oldest|latest|empty|missing|fewer|fewest"
        + "|left over|in place|too|yet|nothing|all stays|as it was|\\d+ to \\d+|\\d+ \\.\\. \\d+|0 on|[0-9])\\b");
    private static final char SAID = '\n';

    private static Map<String, StringBuilder> unsaid;

    private Document() {
    }

    /** From here on what is tested is this sentence of a part of the document. */
    static void says(String part, String sentence) {
        Check.sentence = part + ": " + sentence;
        if (!Files.exists(TEXT)) {
            return;
        }
        StringBuilder text = parts().get(part);
        Check.holds("the document has a part " + part, text != null);
        if (text == null) {
            return;
        }
        // A sentence may be named by several tests: so it is looked for in what was said, too.
        int at = whole(part).indexOf(sentence);
        Check.holds("the document says so", at >= 0);
        for (int i = at; at >= 0 && i < at + sentence.length(); i++) {
            text.setCharAt(i, SAID);
        }
    }

    /** Fails for each part of the document with a boundary that no test has named. */
    static void endOfTests() {
        Check.sentence = "";
        if (!Files.exists(TEXT)) {
            System.out.println("there is no " + TEXT + ": the tests ran, but their sentences are not compared with it");
            return;
        }
        for (Map.Entry<String, StringBuilder> part : parts().entrySet()) {
            for (String rest : part.getValue().toString().split("\n")) {
                Matcher boundary = BOUNDARY.matcher(rest);
                Check.holds("no test names this of " + part.getKey() + ": " + rest.trim(), !boundary.find());
            }
        }
    }

    private static String whole(String part) {
        return read().get(part).toString();
    }

    private static Map<String, StringBuilder> parts() {
        if (unsaid == null) {
            unsaid = read();
        }
        return unsaid;
    }

    private static Map<String, StringBuilder> read() {
        Map<String, StringBuilder> parts = new LinkedHashMap<>();
        String part = "";
        for (String line : lines()) {
            Matcher isPart = PART.matcher(line);
            Matcher isPromise = PROMISE.matcher(line);
            if (isPromise.matches()) {
                part = isPromise.group(1);
            } else if (line.startsWith("## ")) {
                part = line.equals("## Terms") || line.equals("## What it is") ? line.substring(3) : "";
            } else if (isPart.matches()) {
                part = "Terms " + isPart.group(1);
                add(parts, part, isPart.group(2));
            } else if (!part.isEmpty() && !line.startsWith("Ahead of the calls") && !line.startsWith("A key to the left")) {
                add(parts, part, line);
            }
        }
        return parts;
    }

    private static void add(Map<String, StringBuilder> parts, String part, String line) {
        parts.computeIfAbsent(part, key -> new StringBuilder()).append(line).append(SAID);
    }

    private static Iterable<String> lines() {
        try {
            return Files.readAllLines(TEXT);
        } catch (IOException e) {
            throw new IllegalStateException("the document can not be read: " + TEXT, e);
        }
    }
}
