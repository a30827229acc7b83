import java.io.IOException;
import java.lang.reflect.Field;
import java.lang.reflect.Modifier;
import java.nio.file.Files;
import java.nio.file.Path;
import java.util.List;
import java.util.regex.Matcher;
import java.util.regex.Pattern;

/** The rules of LANGUAGE.md that can be seen in the text of the class. */
public final class LanguageTest {
    private static final String[] RULED_OUT = {"throw", "throws", "try", "catch", "synchronized", "assert",
        "package", "Object", "\\w*Exception", "hashCode", "native", "volatile", "\\w+Exact", "protected",
        "Random", "Thread"};
    private static final List<String> IMPORTS = List.of("java.util.Arrays", "java.util.ArrayList", "java.util.List",
        "java.util.Iterator");
    private static final int LONGEST_METHOD = 60, MOST_PARAMETERS = 7, MOST_CLASSES = 12, MOST_FIELDS = 20,
        METHODS_OF_FACE = 38;

    public static void main(String[] args) throws IOException {
        String text = Files.readString(Path.of("src/main/java/KeyDrift.java"));
        for (int i = 0; i < text.length(); i++) {
            Check.holds("a sign of 1 to 127 at " + i, text.charAt(i) > 0 && text.charAt(i) < 128);
        }
        String code = text.replaceAll("(?s)/\\*.*?\\*/", "").replaceAll("//[^\n]*", "").replaceAll("'.'", "0");
        for (String word : RULED_OUT) {
            Check.holds("no " + word, !Pattern.compile("\\b" + word + "\\b").matcher(code).find());
        }
        Check.holds("no block that makes static state", !Pattern.compile("static\\s*\\{").matcher(code).find());
        Check.holds("of System arraycopy alone", !Pattern.compile("System\\.(?!arraycopy)").matcher(code).find());
        Check.holds("no lambda, no method reference", !code.contains("->") && !code.contains("::"));
        imports(code);
        methods(code);
        Matcher classes = Pattern.compile("\\bclass\\b").matcher(code);
        Check.holds("twelve classes at most", classes.results().count() <= MOST_CLASSES);
        fields(KeyDrift.class);
        for (Class<?> inside : KeyDrift.class.getDeclaredClasses()) {
            fields(inside);
        }
        Check.end();
    }

    private static void fields(Class<?> one) {
        int ofObjects = 0;
        for (Field field : one.getDeclaredFields()) {
            boolean isStatic = Modifier.isStatic(field.getModifiers());
            Check.holds("static, so final: " + field, !isStatic || Modifier.isFinal(field.getModifiers()));
            ofObjects += isStatic ? 0 : 1;
        }
        Check.holds("fields of " + one + ": " + ofObjects, ofObjects <= MOST_FIELDS);
    }

    private static void imports(String code) {
        Matcher imports = Pattern.compile("import ([\\w.]+);").matcher(code);
        while (imports.find()) {
            Check.holds("import " + imports.group(1), IMPORTS.contains(imports.group(1)));
        }
    }

    private static void methods(String code) {
        Matcher heads = Pattern.compile("\n( +)[\\w\\[\\] ]*\\w+\\(([^)]*)\\) \\{\n").matcher(code);
        int seen = 0;
        while (heads.find()) {
            int end = code.indexOf("\n" + heads.group(1) + "}", heads.end() - 1);
            String body = code.substring(heads.start() + 1, end);
            String name = body.substring(0, body.indexOf('\n')).trim();
            Check.holds("length of " + name, body.lines().count() <= LONGEST_METHOD);
            Check.holds("parameters of " + name, heads.group(2).split(",").length <= MOST_PARAMETERS);
            seen++;
        }
        Check.holds("methods were seen: " + seen, seen >= METHODS_OF_FACE);
    }
}
