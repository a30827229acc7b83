import java.util.List;
import java.util.function.Supplier;

/**
 * Two objects that were made alike: what a call on one of them changed is told by what differs then.
 * Status is SIZE (4) when a twin is made, so that a call which forgets it, or finds something, is seen.
 */
final class Twins {
    private static final int BEFORE = 4;

    interface Call {
        long on(KeyDrift x);
    }

    private Twins() {
    }

    /** A call that is BAD, STATE, FULL: nothing changes, and status() tells of the call before. */
    static void refused(Supplier<KeyDrift> maker, String what, long answer, Call call) {
        KeyDrift x = maker.get();
        Check.due(what, call.on(x), answer);
        Check.due("status behind " + what, x.status(), BEFORE);
        same(what, x, maker.get());
    }

    /** A call with a FINDING: nothing changes but status(). */
    static void found(Supplier<KeyDrift> maker, String what, int number, Call call) {
        KeyDrift x = maker.get();
        // Else a SIZE that is found could not be told from the one that was found before.
        x.copy(2, 0, 2, 0, 0);
        Check.due("status ahead of " + what, x.status(), 0);
        Check.due(what, call.on(x), -1000010 - number);
        Check.due("status behind " + what, x.status(), number);
        same(what, x, maker.get());
    }

    /** A call that only tells something: nothing changes at all. */
    static void tells(Supplier<KeyDrift> maker, String what, Call call) {
        KeyDrift x = maker.get();
        long answer = call.on(x);
        Check.holds(what + " is no refusal: " + answer, answer >= KeyDrift.NONE);
        Check.due("status behind " + what, x.status(), BEFORE);
        same(what, x, maker.get());
    }

    /** A call with a ROW, or as(), that only tells something: nothing changes but status(). */
    static void tellsWithStatus(Supplier<KeyDrift> maker, String what, Call call) {
        KeyDrift x = maker.get();
        long answer = call.on(x);
        Check.holds(what + " is no refusal: " + answer, answer >= KeyDrift.NONE);
        Check.due("status behind " + what, x.status(), 0);
        same(what, x, maker.get());
    }

    /** A FAULT of what is told behind the law that is on the tape: all stays but the tape. */
    static void faulty(Supplier<KeyDrift> maker, String text, int number, int place) {
        KeyDrift x = maker.get();
        KeyDrift twin = maker.get();
        feed(x, text);
        feed(twin, text);
        Check.due("hall of " + text, x.hall(), -1000100 - place);
        Check.due("fault of " + text, x.fault(), number);
        Check.due("bytes behind " + text, x.count(8), 0);
        Check.due("status behind " + text, x.status(), BEFORE);
        List<String> got = Readings.of(x);
        List<String> want = Readings.of(twin);
        got.removeIf(Readings::isOfTape);
        want.removeIf(Readings::isOfTape);
        same(text, got, want);
    }

    private static void same(String what, KeyDrift x, KeyDrift twin) {
        same(what, Readings.of(x), Readings.of(twin));
    }

    private static void same(String what, List<String> got, List<String> want) {
        for (int i = 0; i < Math.min(got.size(), want.size()); i++) {
            String due = want.get(i);
            Check.holds("behind " + what + ": " + got.get(i) + ", but of its twin " + due, got.get(i).equals(due));
        }
        Check.due("readings behind " + what, got.size(), want.size());
    }

    /** No HALL; ROWS of each LANE, a FAULT, some bytes on the tape. */
    static KeyDrift bare() {
        KeyDrift x = new KeyDrift();
        x.hall();
        rows(x);
        feed(x, "k7,1,2;");
        x.row(0, 0, -1);
        return x;
    }

    /** A HALL of five with 24 ACTS that can be undone, and others that can not; an image; THE TRACE. */
    static KeyDrift told() {
        KeyDrift x = Check.hall(Check.FIVE);
        x.hall();
        rows(x);
        x.learn(1);
        x.nights(3);
        x.image(0);
        x.nights(16);
        x.thunder(4);
        x.learn(1);
        x.tune();
        x.nights(1);
        x.thunder(5);
        x.learn(4);
        x.ask(4, 1);
        feed(x, "k7,1,2;");
        x.row(0, 0, -1);
        return x;
    }

    /** The same, in which NIGHT is 990. */
    static KeyDrift late() {
        KeyDrift x = told();
        for (int i = 0; i < 40; i++) {
            x.nights(24);
        }
        x.nights(10);
        return x;
    }

    /** The same, with a tape that has 120 bytes. */
    static KeyDrift fed() {
        return fedUp(told());
    }

    /** No HALL, and a tape that has 120 bytes. */
    static KeyDrift bareFed() {
        return fedUp(bare());
    }

    private static KeyDrift fedUp(KeyDrift x) {
        for (int bytes = x.count(8); bytes < 120; bytes++) {
            x.feed('k');
        }
        return x;
    }

    private static void feed(KeyDrift x, String text) {
        for (int i = 0; i < text.length(); i++) {
            x.feed(text.charAt(i));
        }
    }

    /** ROW 0 has 40 bytes, 1 six shorts, 2 no ints, 3 is missing, 4 three bytes that are heard. */
    private static void rows(KeyDrift x) {
        x.row(0, 0, 40);
        for (int i = 1; i < 40; i += 4) {
            x.set(0, i, i % 7);
        }
        x.row(1, 1, 6);
        x.set(1, 1, 3);
        x.set(1, 5, 6);
        x.row(2, 2, 0);
        x.row(4, 0, 3);
        x.set(4, 1, 1);
    }
}
