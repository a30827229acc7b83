import java.lang.reflect.InvocationTargetException;
import java.lang.reflect.Method;
import java.util.Arrays;
import java.util.Comparator;
import java.util.HashMap;
import java.util.Map;
import java.util.Random;

/** Runs of 512 drawn calls, each answer compared with the Model's; the seed of the draws is fixed. */
public final class ModelTest {
    private static final int RUNS = 1500, CALLS = 512;
    private static final int[] EDGES = {Integer.MIN_VALUE, -1000, -2, -1, 13, 24, 25, 40, 41, 60, 61, 120, 255, 256,
        4095, 4096, 16777215, 16777216, Integer.MAX_VALUE};

    /** By name: the least and the greatest of each parameter that mostly fits. */
    private static final Map<String, int[]> RANGES = new HashMap<>();

    static {
        range("row", 0, 7, 0, 2, 0, 40);
        range("set", 0, 7, 0, 12, -300, 300);
        range("copy", 0, 7, 0, 12, 0, 7, 0, 12, 0, 12);
        range("drop", 0, 7);
        range("feed", 0, 255);
        range("nights", 1, 24);
        range("thunder", 1, 11);
        range("learn", 0, 4);
        range("piece", 0, 3, -1, 8);
        range("pupil", 0, 4, 0, 3);
        range("plays", 0, 4, 0, 3, 0, 2);
        range("heard", 0, 4, 0, 3, 0, 7);
        range("strike", 0, 11);
        range("soon", 0, 4);
        range("together", 0, 4, 0, 4);
        range("nightsOf", 0, 4, 1, 24);
        range("struck", 0, 7, 0, 12, 1, 12, 0, 1);
        range("lessons", 0, 16777215, 0, 1);
        range("programme", 1, 6, -1, 3);
        range("chords", -1, 12);
        range("who", 0, 4, 0, 3, 0, 7, 0, 12);
        range("tunings", 1, 60, 0, 11);
        range("other", 0, 11, 0, 11);
        range("thunderOdds", 0, 4, 0, 10, 0, 6, 0, 1);
        range("drawn", 0, 60, 1, 999999, 0, 1);
        range("image", 0, 1);
        range("restore", 0, 1);
        range("kind", 0, 4);
        range("as", 0, 4, 0, 5);
        range("ask", 0, 4, 0, 1);
        range("trace", 0, 6);
        range("count", 0, 8);
    }

    private static void range(String name, int... leastAndGreatest) {
        RANGES.put(name, leastAndGreatest);
    }

    private final Random draws;
    private final Method[] calls;
    private final Method[] twins;
    private KeyDrift x;
    private Model model;
    private int made;
    private final StringBuilder log = new StringBuilder();

    private ModelTest(long seed) throws NoSuchMethodException {
        draws = new Random(seed);
        calls = onlyPublic(KeyDrift.class.getDeclaredMethods());
        twins = new Method[calls.length];
        for (int i = 0; i < calls.length; i++) {
            twins[i] = Model.class.getDeclaredMethod(calls[i].getName(), calls[i].getParameterTypes());
        }
    }

    public static void main(String[] args) throws Exception {
        for (int run = 0; run < RUNS; run++) {
            new ModelTest(run).run();
        }
        Check.end();
    }

    private void run() throws IllegalAccessException, InvocationTargetException {
        x = new KeyDrift();
        model = new Model();
        made = 0;
        boolean isSame = draws.nextInt(8) == 0 || tell();
        while (made < CALLS && isSame) {
            int choice = draws.nextInt(100);
            if (choice == 0 && made < CALLS - 130) {
                isSame = tell();
            } else if (choice < 4) {
                isSame = fillRow();
            } else {
                isSame = any();
            }
        }
        if (!isSame) {
            System.out.println(log);
        }
    }

    private boolean any() throws IllegalAccessException, InvocationTargetException {
        int which = draws.nextInt(calls.length);
        String name = calls[which].getName();
        // Else the HALL that a run plays with would be lost, or its tape spoilt, all the time.
        if ((name.equals("feed") || name.equals("hall")) && draws.nextInt(8) != 0) {
            return true;
        }
        Object[] values = new Object[calls[which].getParameterCount()];
        for (int i = 0; i < values.length; i++) {
            values[i] = value(name, i);
        }
        return same(which, values);
    }

    /** Mostly a number that fits the parameter, sometimes one near its edges, or far off. */
    private int value(String name, int parameter) {
        int[] ranges = RANGES.get(name);
        int from = ranges[2 * parameter];
        int to = ranges[2 * parameter + 1];
        int choice = draws.nextInt(100);
        if (choice == 0) {
            return EDGES[draws.nextInt(EDGES.length)];
        }
        if (choice < 3) {
            return draws.nextBoolean() ? from - 1 : to + 1;
        }
        if (choice < 8) {
            return draws.nextBoolean() ? from : to;
        }
        if (to - from > 1000 && draws.nextBoolean()) {
            return draws.nextInt(1 << draws.nextInt(20));
        }
        return from + draws.nextInt(to - from + 1);
    }

    private boolean same(int which, Object... values) throws IllegalAccessException, InvocationTargetException {
        made++;
        long got = ((Number) calls[which].invoke(x, values)).longValue();
        long want = ((Number) twins[which].invoke(model, values)).longValue();
        String call = calls[which].getName() + Arrays.toString(values);
        log.append(call).append(" = ").append(want).append('\n');
        Check.due(call, got, want);
        return got == want;
    }

    private boolean same(String name, Object... values) throws IllegalAccessException, InvocationTargetException {
        for (int i = 0; i < calls.length; i++) {
            if (calls[i].getName().equals(name)) {
                return same(i, values);
            }
        }
        return false;
    }

    private boolean tell() throws IllegalAccessException, InvocationTargetException {
        boolean isSame = true;
        if (model.count(8) != 0 && draws.nextInt(8) != 0) {
            isSame = same("hall");
        }
        String text = text();
        if (draws.nextInt(4) == 0) {
            text = spoilt(text);
        }
        for (int i = 0; i < text.length(); i++) {
            isSame &= same("feed", (int) text.charAt(i));
        }
        return isSame & same("hall") & same("fault");
    }

    private String text() {
        int keys = draws.nextInt(11) + 2;
        StringBuilder text = new StringBuilder();
        text.append('k').append(keys).append(',').append(draws.nextInt(keys)).append(',');
        text.append(draws.nextInt(keys)).append(';');
        int pieces = draws.nextInt(20) == 0 ? 5 : 4 - draws.nextInt(draws.nextInt(4) + 2);
        for (int i = 0; i < pieces; i++) {
            text.append('t');
            int length = draws.nextInt(40) == 0 ? 9 : draws.nextInt(8) + 1;
            int range = draws.nextInt(80) == 0 ? keys + 1 : keys;
            for (int k = 0; k < length; k++) {
                text.append((char) ('a' + draws.nextInt(draws.nextInt(3) == 0 ? range : 2)));
            }
            text.append(';');
        }
        int pupils = draws.nextInt(20) == 0 ? 6 : 5 - draws.nextInt(draws.nextInt(5) + 2);
        for (int i = 0; i < pupils; i++) {
            text.append("pvscm".charAt(draws.nextInt(5)));
            text.append(draws.nextInt(4) == 0 ? "0" : "").append(draws.nextInt(Math.min(keys, 10)));
            text.append(',').append(draws.nextInt(12) + 1).append(';');
        }
        return text.toString();
    }

    private String spoilt(String text) {
        StringBuilder spoilt = new StringBuilder(text);
        String letters = "ktpvscmabl,;0123459 /:`{\u00e9";
        char letter = letters.charAt(draws.nextInt(letters.length()));
        int at = draws.nextInt(text.length());
        switch (draws.nextInt(4)) {
            case 0 -> spoilt.setCharAt(at, letter);
            case 1 -> spoilt.insert(at, letter);
            case 2 -> spoilt.deleteCharAt(at);
            default -> spoilt.setLength(at);
        }
        return spoilt.toString();
    }

    /** Rows that could have been heard, or struck, on this piano; sometimes with a lie. */
    private boolean fillRow() throws IllegalAccessException, InvocationTargetException {
        int row = draws.nextInt(8);
        int keys = Math.max(2, model.count(1));
        boolean isSame = true;
        int shift = draws.nextInt(keys);
        if (draws.nextBoolean()) {
            int n = draws.nextInt(6) + 1;
            isSame = same("row", row, draws.nextInt(3), 2 * n);
            for (int i = 0; i < n; i++) {
                int key = draws.nextInt(keys);
                int lie = draws.nextInt(8) == 0 ? 1 : 0;
                isSame &= same("set", row, 2 * i, key) & same("set", row, 2 * i + 1, (key + shift + lie) % keys);
            }
            return isSame & same("struck", row, 0, n, draws.nextInt(2)) & same("struck", row, 0, 1, 0);
        }
        int piece = draws.nextInt(4);
        int length = model.piece(piece, -1);
        if (length < 0) {
            return true;
        }
        isSame = same("row", row, draws.nextInt(3), length);
        for (int k = 0; k < length; k++) {
            isSame &= same("set", row, k, (model.piece(piece, k) + shift) % keys);
        }
        return isSame & same("who", draws.nextInt(5), piece, row, 0) & same("who", 0, piece, row, 0);
    }

    private static Method[] onlyPublic(Method[] all) {
        return Arrays.stream(all)
            .filter(method -> java.lang.reflect.Modifier.isPublic(method.getModifiers()))
            .sorted(Comparator.comparing(Method::getName))
            .toArray(Method[]::new);
    }
}
