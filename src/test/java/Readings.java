import java.util.ArrayList;
import java.util.List;

/**
 * All that calls can tell of an object. To read it uses the object up: what can be undone is undone,
 * images are restored, the tape is read, rows are dropped. It takes fewer than 300 calls.
 */
final class Readings {
    private final KeyDrift x;
    private final List<String> told = new ArrayList<>();

    private Readings(KeyDrift x) {
        this.x = x;
    }

    /** Of all but status(), which the calls with a ROW change. */
    static List<String> of(KeyDrift x) {
        Readings readings = new Readings(x);
        readings.trace();
        readings.hall("now");
        readings.acts();
        for (int k = 0; k < 2; k++) {
            int restored = x.restore(k);
            readings.tell("restore " + k, restored);
            if (restored == 1) {
                readings.hall("image " + k);
            }
        }
        readings.tape();
        readings.rows();
        return readings.told;
    }

    /** What is told of the tape begins so. */
    static boolean isOfTape(String reading) {
        return reading.startsWith("tape");
    }

    private void tell(String what, long answer) {
        told.add(what + " = " + answer);
    }

    private void trace() {
        for (int i = 0; i < 8; i++) {
            tell("trace " + i, x.trace(i));
        }
    }

    private void hall(String which) {
        for (int what = 0; what <= 7; what++) {
            tell(which + ", count " + what, x.count(what));
        }
        int pieces = x.count(4);
        for (int piece = 0; piece < pieces; piece++) {
            int strings = x.piece(piece, -1);
            for (int k = 0; k <= strings; k++) {
                tell(which + ", piece " + piece + ", " + k, x.piece(piece, k));
            }
        }
        int pupils = x.count(5);
        for (int pupil = 0; pupil < pupils; pupil++) {
            tell(which + ", kind " + pupil, x.kind(pupil));
            tell(which + ", learnt " + pupil, x.pupil(pupil, 0));
            tell(which + ", span " + pupil, x.pupil(pupil, 1));
        }
    }

    private void acts() {
        int acts = x.count(7);
        for (int i = 0; i < acts; i++) {
            tell("undo", x.undo());
            tell("shift behind undo", x.count(3));
            tell("night behind undo", x.count(6));
            tell("learnt behind undo", x.pupil(1, 0));
            tell("learnt of a cat behind undo", x.pupil(4, 0));
        }
    }

    private void tape() {
        tell("tape, bytes", x.count(8));
        tell("tape, fault", x.fault());
        tell("tape, hall", x.hall());
        tell("tape, fault then", x.fault());
        for (int what = 1; what <= 8; what++) {
            tell("tape, count " + what, x.count(what));
        }
    }

    /** The tests' rows have keys and strings by turns, which struck() tells one by one. */
    private void rows() {
        for (int row = 0; row < 8; row++) {
            tell("row " + row + ", a lane", x.copy(row, 0, 2, 0, 0));
            int shifts = 0;
            for (int i = 0; i < 40 && shifts >= 0; i += 2) {
                shifts = x.struck(row, i, 1, 0);
                tell("row " + row + ", items from " + i, shifts);
            }
            tell("row " + row + ", its lane", x.set(row, 0, 70000));
            tell("drop " + row, x.drop(row));
        }
    }
}
