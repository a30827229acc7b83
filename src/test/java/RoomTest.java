import com.sun.management.ThreadMXBean;
import java.lang.management.ManagementFactory;

/** All calls of a run live in one room: an object with all its calls takes a small part of it. */
public final class RoomTest {
    /** Each round has some hundred calls, so that an object is used for five of them. */
    private static final int ROUNDS = 2000, ROUNDS_EACH = 5;
    /** Of 7.3 million fields and elements, four bytes each, not more than a hundredth part. */
    private static final long MOST_BYTES_EACH = 7300000L * 4 / 100;

    public static void main(String[] args) {
        if (!(ManagementFactory.getThreadMXBean() instanceof ThreadMXBean meter)
            || !meter.isThreadAllocatedMemorySupported()) {
            System.out.println("this machine can not measure room: nothing is tested");
            return;
        }
        long sum = 0;
        KeyDrift x = Check.hall(Check.FIVE);
        for (int round = 0; round < ROUNDS; round++) {
            sum += everyCall(x, round);
        }
        long before = meter.getCurrentThreadAllocatedBytes();
        for (int round = 0; round < ROUNDS; round++) {
            sum += everyCall(x, round);
        }
        long byCalls = (meter.getCurrentThreadAllocatedBytes() - before) / ROUNDS * ROUNDS_EACH;
        before = meter.getCurrentThreadAllocatedBytes();
        x = new KeyDrift();
        long byObject = meter.getCurrentThreadAllocatedBytes() - before;
        System.out.println("an object takes " + byObject + " bytes, its calls " + byCalls + "; all answers sum up to " + sum);
        Check.holds("an object and its calls take little room", byObject + byCalls <= MOST_BYTES_EACH);
        Check.end();
    }

    private static long everyCall(KeyDrift x, int i) {
        long sum = x.row(i % 8, 0, 24) + x.set(i % 8, i % 24, i) + x.copy(i % 8, 0, i % 8, 1, 20);
        sum += tell(x) + x.hall() + x.fault() + x.nights(2) + x.undo() + x.thunder(1 + i % 11) + x.tune();
        sum += x.learn(i % 5) + x.piece(0, 1) + x.pupil(i % 5, 2) + x.plays(i % 5, 1, 0) + x.heard(i % 5, 0, 0);
        sum += x.strike(1) + x.soon(i % 5) + x.together(0, 1) + x.itself() + x.nightsOf(i % 5, 24);
        sum += x.struck(i % 8, 0, 12, 1) + x.lessons(i % 127, 1) + x.programme(6, -1) + x.programme(6, 2);
        sum += x.chords(1) + x.who(i % 5, 0, i % 8, 0) + x.tunings(60, i % 12) + x.other(1, 2);
        sum += x.thunderOdds(i % 5, 3, 6, 0) + x.drawn(60, i + 1, 1) + x.image(i % 2) + x.restore(i % 2);
        sum += x.kind(i % 5) + x.as(i % 5, 1) + x.ask(i % 5, 0) + x.ask(i % 5, 1) + x.trace(0) + x.count(i % 9);
        return sum + x.drop(i % 8) + x.status();
    }

    private static int tell(KeyDrift x) {
        int fed = 0;
        for (int i = 0; i < Check.FIVE.length(); i++) {
            fed = x.feed(Check.FIVE.charAt(i));
        }
        return fed;
    }
}
