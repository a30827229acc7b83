import java.io.IOException;
import java.lang.reflect.Field;
import java.lang.reflect.Method;
import java.lang.reflect.Modifier;
import java.nio.file.Files;
import java.nio.file.Path;
import java.util.Arrays;
import java.util.List;
import java.util.TreeSet;

/** The public face, the constants, promise 1 (a new object). */
public final class FaceTest {
    private static final String[] FACE = {
        "int row(int,int,int)", "int set(int,int,int)", "int copy(int,int,int,int,int)", "int drop(int)",
        "int feed(int)", "int hall()", "int fault()", "int undo()", "int nights(int)", "int thunder(int)",
        "int tune()", "int learn(int)", "int piece(int,int)", "int pupil(int,int)", "int plays(int,int,int)",
        "int heard(int,int,int)", "int strike(int)", "int soon(int)", "int together(int,int)", "int itself()",
        "int nightsOf(int,int)", "int struck(int,int,int,int)", "int lessons(int,int)",
        "int programme(int,int)", "int chords(int)", "int who(int,int,int,int)", "int tunings(int,int)",
        "int other(int,int)", "long thunderOdds(int,int,int,int)", "int drawn(int,int,int)", "int image(int)",
        "int restore(int)", "int kind(int)", "int as(int,int)", "int ask(int,int)", "int trace(int)",
        "int count(int)", "int status()"};

    public static void main(String[] args) throws IOException {
        methods();
        document();
        fieldsAndClasses();
        newObject();
        Check.end();
    }

    private static void methods() {
        TreeSet<String> wanted = new TreeSet<>(Arrays.asList(FACE));
        TreeSet<String> names = new TreeSet<>();
        for (String one : FACE) {
            names.add(one.substring(one.indexOf(' ') + 1, one.indexOf('(')));
        }
        TreeSet<String> seen = new TreeSet<>();
        for (Method method : KeyDrift.class.getDeclaredMethods()) {
            if (Modifier.isPrivate(method.getModifiers())) {
                Check.holds("no private method bears a public name: " + method, !names.contains(method.getName()));
            } else {
                Check.holds("public, not static: " + method, method.getModifiers() == Modifier.PUBLIC);
                seen.add(told(method));
            }
        }
        Check.holds("the methods are those of the face: " + seen, seen.equals(wanted));
        for (Class<?> inside : KeyDrift.class.getDeclaredClasses()) {
            for (Method method : inside.getDeclaredMethods()) {
                boolean isPrivate = Modifier.isPrivate(method.getModifiers());
                Check.holds("no private method bears a public name: " + method,
                    !isPrivate || !names.contains(method.getName()));
            }
        }
    }

    /** The class has each line of the document's face, and each call that a promise begins with. */
    private static void document() throws IOException {
        String text = Files.readString(Path.of("src/main/java/KeyDrift.java"));
        List<String> face = Document.face();
        for (String line : face) {
            boolean isCall = line.contains("(");
            String wanted = isCall ? line.replace(";", " {") : line;
            Check.holds("the class says: " + wanted, text.contains(wanted));
        }
        List<String> heads = Document.heads();
        for (String head : heads) {
            Check.holds("the class says: " + head, text.contains("public " + head + " {"));
            Check.holds("the face says: " + head, face.contains("public " + head + ";"));
        }
        Check.holds("a promise for the constructor and each call: " + heads.size(),
            heads.isEmpty() || heads.size() == FACE.length + 1);
    }

    private static String told(Method method) {
        StringBuilder text = new StringBuilder();
        text.append(method.getReturnType().getName()).append(' ').append(method.getName()).append('(');
        for (Class<?> type : method.getParameterTypes()) {
            text.append(text.charAt(text.length() - 1) == '(' ? "" : ",").append(type.getName());
        }
        return text.append(')').toString();
    }

    private static void fieldsAndClasses() {
        int open = 0;
        for (Field field : KeyDrift.class.getDeclaredFields()) {
            if (!Modifier.isPrivate(field.getModifiers())) {
                open++;
            }
        }
        Check.due("constants", open, 4);
        Check.due("NONE", KeyDrift.NONE, -1000000);
        Check.due("BAD", KeyDrift.BAD, -1000001);
        Check.due("STATE", KeyDrift.STATE, -1000002);
        Check.due("FULL", KeyDrift.FULL, -1000003);
        Check.due("constructors", KeyDrift.class.getDeclaredConstructors().length, 1);
        Check.holds("final", Modifier.isFinal(KeyDrift.class.getModifiers()));
        for (Class<?> inside : KeyDrift.class.getDeclaredClasses()) {
            Check.holds("static: " + inside, Modifier.isStatic(inside.getModifiers()));
        }
    }

    private static void newObject() {
        KeyDrift x = new KeyDrift();
        for (int what = 0; what <= 8; what++) {
            Check.due("count(" + what + ")", x.count(what), 0);
        }
        Check.due("status", x.status(), 0);
        Check.due("fault", x.fault(), 0);
        Check.due("trace", x.trace(0), KeyDrift.NONE);
        Check.due("undo", x.undo(), KeyDrift.STATE);
        Check.due("restore", x.restore(1), KeyDrift.STATE);
        Check.due("drop", x.drop(7), Check.NULL);
    }
}
