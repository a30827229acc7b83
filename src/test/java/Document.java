import java.io.IOException;
import java.nio.file.Files;
import java.nio.file.Path;
import java.util.ArrayList;
import java.util.LinkedHashMap;
import java.util.List;
import java.util.Map;
import java.util.regex.Matcher;
import java.util.regex.Pattern;

/**
 * The document's own words. A test names the sentence that it holds the class to; at the end every
 * sentence of the terms and the promises must have been named by a test.
 */
final class Document {
    private static final Path TEXT = Path.of("..", "shared", "DOC.md");
    private static final Pattern PART = Pattern.compile("======== (\\d) (.*)");
    private static final Pattern PROMISE = Pattern.compile("## (Promise \\d+): .*");
    /** A promise begins with its call, which FaceTest holds the class to. */
    private static final Pattern HEAD = Pattern.compile("`([^`]*)`: (.*)");
    private static final Pattern WORD = Pattern.compile("\\w");
    private static final char SAID = '\n';

    private static Map<String, StringBuilder> unsaid;

    private Document() {
    }

    /** From here on what is tested is this sentence of a part of the document. */
    static void says(String part, String sentence) {
        Check.sentence = part + ": " + sentence;
        if (!Files.exists(TEXT)) {
            return;
        }
        StringBuilder text = parts().get(part);
        Check.holds("the document has a part " + part, text != null);
        if (text == null) {
            return;
        }
        // A sentence may be named by several tests: so it is looked for in what was said, too.
        int at = whole(part).indexOf(sentence);
        Check.holds("the document says so", at >= 0);
        for (int i = at; at >= 0 && i < at + sentence.length(); i++) {
            text.setCharAt(i, SAID);
        }
    }

    /** Fails for each part of the document with words that no test has named. */
    static void endOfTests() {
        Check.sentence = "";
        if (!Files.exists(TEXT)) {
            System.out.println("there is no " + TEXT + ": the tests ran, but their sentences are not compared with it");
            return;
        }
        for (Map.Entry<String, StringBuilder> part : parts().entrySet()) {
            for (String rest : part.getValue().toString().split("\n")) {
                Matcher word = WORD.matcher(rest);
                Check.holds("no test names this of " + part.getKey() + ": " + rest.trim(), !word.find());
            }
        }
    }

    /** The lines of the public face; none, if there is no document. */
    static List<String> face() {
        List<String> face = new ArrayList<>();
        boolean isFace = false;
        for (String line : lines()) {
            if (line.startsWith("```")) {
                isFace = line.equals("```java");
            } else if (isFace) {
                face.add(line.trim());
            }
        }
        return face;
    }

    /** The calls that the promises begin with, in their order; none, if there is no document. */
    static List<String> heads() {
        List<String> heads = new ArrayList<>();
        for (String line : lines()) {
            Matcher head = HEAD.matcher(line);
            if (head.matches()) {
                heads.add(head.group(1));
            }
        }
        return heads;
    }

    private static String whole(String part) {
        return read().get(part).toString();
    }

    private static Map<String, StringBuilder> parts() {
        if (unsaid == null) {
            unsaid = read();
        }
        return unsaid;
    }

    private static Map<String, StringBuilder> read() {
        Map<String, StringBuilder> parts = new LinkedHashMap<>();
        String part = "";
        for (String line : lines()) {
            Matcher isPart = PART.matcher(line);
            Matcher isPromise = PROMISE.matcher(line);
            if (isPromise.matches()) {
                part = isPromise.group(1);
            } else if (line.startsWith("## ")) {
                part = line.equals("## Terms") || line.equals("## What it is") ? line.substring(3) : "";
            } else if (isPart.matches()) {
                part = "Terms " + isPart.group(1);
                add(parts, part, isPart.group(2));
            } else if (!part.isEmpty() && isTested(line)) {
                Matcher head = HEAD.matcher(line);
                add(parts, part, head.matches() ? head.group(2) : line);
            }
        }
        return parts;
    }

    /** All but the marks of a block, the headings of the interface, and the summary, which Terms tell at length. */
    private static boolean isTested(String line) {
        boolean isHeading = line.startsWith("Ahead of the calls");
        boolean isSummary = line.startsWith("A key to the left");
        return !line.startsWith("```") && !isHeading && !isSummary;
    }

    private static void add(Map<String, StringBuilder> parts, String part, String line) {
        parts.computeIfAbsent(part, key -> new StringBuilder()).append(line).append(SAID);
    }

    private static List<String> lines() {
        if (!Files.exists(TEXT)) {
            return List.of();
        }
        try {
            return Files.readAllLines(TEXT);
        } catch (IOException e) {
            throw new IllegalStateException("the document can not be read: " + TEXT, e);
        }
    }
}
