import java.io.IOException;
import java.lang.reflect.InvocationTargetException;
import java.lang.reflect.Method;
import java.nio.file.Files;
import java.nio.file.Path;
import java.util.ArrayList;
import java.util.List;
import java.util.Set;
import java.util.TreeSet;
import java.util.regex.Matcher;
import java.util.regex.Pattern;

/** The calls of README.md, in their order, on one object: each answers what stands behind it. */
public final class ReadmeTest {
    private static final Path PAGE = Path.of("README.md");
    private static final Pattern TEXT = Pattern.compile("String text = \"([^\"]*)\";");
    private static final Pattern CALL = Pattern.compile("x\\.(\\w+)\\(([^)]*)\\); +// ([-\\w]+)(: .*)?");
    private static final List<String> LOOP = List.of("for (int i = 0; i < text.length(); i++) {",
        "x.feed(text.charAt(i));", "}");
    private static final int MOST_CALLS = 512, CALLS_OF_FACE = 38;

    private static final Set<String> shown = new TreeSet<>();
    private static KeyDrift x;
    private static String text = "";
    private static int calls;

    public static void main(String[] args) throws IOException, ReflectiveOperationException {
        for (String line : linesOfJava()) {
            run(line);
        }
        Check.holds("calls on one object: " + calls, calls <= MOST_CALLS);
        Check.due("calls of the face that the page shows: " + shown, shown.size(), CALLS_OF_FACE);
        Check.end();
    }

    private static List<String> linesOfJava() throws IOException {
        List<String> lines = new ArrayList<>();
        boolean isJava = false;
        for (String line : Files.readAllLines(PAGE)) {
            if (line.startsWith("```")) {
                isJava = line.equals("```java");
            } else if (isJava) {
                lines.add(line.trim());
            }
        }
        return lines;
    }

    private static void run(String line) throws ReflectiveOperationException {
        Matcher told = TEXT.matcher(line);
        Matcher call = CALL.matcher(line);
        if (line.equals("KeyDrift x = new KeyDrift();")) {
            x = new KeyDrift();
        } else if (told.matches()) {
            text = told.group(1);
        } else if (LOOP.contains(line)) {
            // The loop's lines stand for what its last one ends: the text is told.
            if (line.equals("}")) {
                feedText();
            }
        } else if (call.matches()) {
            Check.due(line, answerOf(call.group(1), call.group(2)), numberOf(call.group(3)));
        } else {
            Check.holds("a line that this test can run: " + line, false);
        }
    }

    private static void feedText() {
        for (int i = 0; i < text.length(); i++) {
            x.feed(text.charAt(i));
            calls++;
        }
        shown.add("feed");
    }

    private static long answerOf(String name, String told) throws ReflectiveOperationException {
        String[] parts = told.isEmpty() ? new String[0] : told.split(", ");
        Object[] arguments = new Object[parts.length];
        for (int i = 0; i < parts.length; i++) {
            arguments[i] = parts[i].startsWith("'") ? parts[i].charAt(1) : Integer.parseInt(parts[i]);
        }
        calls++;
        shown.add(name);
        try {
            return ((Number) method(name).invoke(x, arguments)).longValue();
        } catch (InvocationTargetException e) {
            throw new IllegalStateException(name + "(" + told + ") threw", e);
        }
    }

    private static Method method(String name) {
        for (Method method : KeyDrift.class.getMethods()) {
            if (method.getName().equals(name) && method.getDeclaringClass() == KeyDrift.class) {
                return method;
            }
        }
        throw new IllegalStateException("the class has no " + name);
    }

    private static long numberOf(String answer) throws ReflectiveOperationException {
        boolean isName = Character.isLetter(answer.charAt(0));
        return isName ? KeyDrift.class.getField(answer).getInt(null) : Long.parseLong(answer);
    }
}
