import java.lang.reflect.InvocationTargetException;
import java.lang.reflect.Method;
import java.lang.reflect.Modifier;
import java.util.Arrays;
import java.util.LinkedHashMap;
import java.util.Map;

/** No call throws, for any arguments in any state: each method with all pairings of numbers at and off its ends. */
public final class AnyArgumentsTest {
    private static final int[] MANY = {Integer.MIN_VALUE, Integer.MIN_VALUE + 1, -1000001, -41, -2, -1, 0, 1, 2, 3, 4, 5, 6, 7,
        8, 9, 10, 11, 12, 13, 16, 23, 24, 25, 39, 40, 41, 60, 61, 120, 255, 256, 4095, 4096, 999999, 1000000, 16777215, 16777216,
        Integer.MAX_VALUE - 1, Integer.MAX_VALUE};
    private static final int[] FEW = {Integer.MIN_VALUE, -1, 0, 1, 2, 4, 6, 8, 12, 39, 41, Integer.MAX_VALUE};

    public static void main(String[] args) throws IllegalAccessException {
        for (Method method : KeyDrift.class.getDeclaredMethods()) {
            if (Modifier.isPublic(method.getModifiers())) {
                for (Map.Entry<String, KeyDrift> state : states().entrySet()) {
                    call(method, state.getValue(), state.getKey());
                }
            }
        }
        Check.end();
    }

    private static Map<String, KeyDrift> states() {
        Map<String, KeyDrift> states = new LinkedHashMap<>();
        states.put("a new object", new KeyDrift());
        states.put("no HALL", Twins.bare());
        states.put("a full tape", Twins.bareFed());
        states.put("a HALL", Twins.told());
        states.put("a late NIGHT", Twins.late());
        states.put("no PIECES", Check.hall("k12,11,11;p11,12;m11,12;"));
        states.put("no PUPILS", Check.hall("k2,1,1;tabababab;tb;"));
        states.put("neither", Check.hall("k2,0,0;"));
        for (String state : new String[] {"a HALL", "no PIECES"}) {
            for (int row = 0; row < 8; row++) {
                states.get(state).row(row, 2, 5 * row);
                for (int i = 0; i < 5 * row; i++) {
                    states.get(state).set(row, i, MANY[i % MANY.length]);
                }
            }
        }
        return states;
    }

    private static void call(Method method, KeyDrift x, String state) throws IllegalAccessException {
        int count = method.getParameterCount();
        int[] values = count <= 3 ? MANY : FEW;
        int pairings = 1;
        for (int i = 0; i < count; i++) {
            pairings *= values.length;
        }
        Object[] arguments = new Object[count];
        for (int pairing = 0; pairing < pairings; pairing++) {
            int rest = pairing;
            for (int i = 0; i < count; i++) {
                arguments[i] = values[rest % values.length];
                rest /= values.length;
            }
            try {
                method.invoke(x, arguments);
            } catch (InvocationTargetException e) {
                String told = method.getName() + Arrays.toString(arguments);
                Check.holds(told + " of " + state + " threw " + e.getCause(), false);
                return;
            }
        }
    }
}
