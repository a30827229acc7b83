/** Promises 9 (undo), 10 (nights), 11 (thunder), 12 (tune), 13 (learn), 32 (image), 33 (restore), 38 (count). */
public final class ActsTest {
    private static final int BAD = KeyDrift.BAD, STATE = KeyDrift.STATE, FULL = KeyDrift.FULL;

    public static void main(String[] args) {
        noHall();
        nights();
        lastNight();
        thunderAndTuning();
        lessons();
        undo();
        oldestForgotten();
        images();
        counts();
        Check.end();
    }

    private static void noHall() {
        KeyDrift x = new KeyDrift();
        Check.due("nights", x.nights(0), STATE);
        Check.due("thunder", x.thunder(0), STATE);
        Check.due("tune", x.tune(), STATE);
        Check.due("learn", x.learn(0), BAD);
        Check.due("undo", x.undo(), STATE);
    }

    private static void nights() {
        KeyDrift x = Check.hall("k7,3,5;");
        Check.due("one", x.nights(1), 1);
        Check.due("two", x.nights(2), 0);
        Check.due("night", x.count(6), 3);
        Check.due("acts", x.count(7), 3);
        Check.due("none", x.nights(0), BAD);
        Check.due("25", x.nights(25), BAD);
        Check.due("-1", x.nights(-1), BAD);
        Check.due("24", x.nights(24), 2);
        Check.due("night", x.count(6), 27);
        Check.due("acts", x.count(7), 24);
    }

    private static void lastNight() {
        KeyDrift x = Check.hall("k7,1,0;");
        for (int i = 0; i < 41; i++) {
            x.nights(24);
        }
        Check.due("night", x.count(6), 984);
        Check.due("to 1000", x.nights(16), FULL);
        Check.due("BAD ahead of FULL", x.nights(25), BAD);
        Check.due("night", x.count(6), 984);
        Check.due("to 999", x.nights(15), 999 % 7);
        Check.due("one more", x.nights(1), FULL);
        Check.due("shift", x.count(3), 999 % 7);
        Check.due("undo", x.undo(), 23);
        Check.due("night", x.count(6), 998);
        Check.due("again", x.nights(1), 999 % 7);
    }

    private static void thunderAndTuning() {
        KeyDrift x = Check.hall("k5,1,3;");
        Check.due("thunder 11", x.thunder(11), 4);
        Check.due("thunder 1", x.thunder(1), 0);
        Check.due("thunder 0", x.thunder(0), BAD);
        Check.due("thunder 12", x.thunder(12), BAD);
        Check.due("acts", x.count(7), 2);
        Check.due("night", x.count(6), 0);
        Check.due("thunder", x.thunder(3), 3);
        Check.due("tune", x.tune(), 3);
        Check.due("shift", x.count(3), 0);
        Check.due("tune at 0", x.tune(), 0);
        Check.due("acts", x.count(7), 5);
    }

    private static void lessons() {
        KeyDrift x = Check.hall("k5,1,3;p0,1;c1,1;");
        Check.due("learn", x.learn(1), 1);
        Check.due("learnt", x.pupil(1, 0), 3);
        Check.due("again", x.learn(1), 3);
        Check.due("the other", x.pupil(0, 0), 0);
        Check.due("acts", x.count(7), 2);
        Check.due("pupil 2", x.learn(2), BAD);
        Check.due("pupil -1", x.learn(-1), BAD);
    }

    private static void undo() {
        KeyDrift x = Check.hall("k7,3,5;p4,1;v2,1;");
        x.nights(2);
        x.learn(1);
        x.thunder(2);
        x.tune();
        x.learn(0);
        Check.due("the lesson", x.undo(), 5);
        Check.due("learnt", x.pupil(0, 0), 4);
        Check.due("the tuning", x.undo(), 4);
        Check.due("shift", x.count(3), 6);
        Check.due("the thunder", x.undo(), 3);
        Check.due("shift", x.count(3), 4);
        Check.due("learnt yet", x.pupil(1, 0), 4);
        Check.due("the lesson", x.undo(), 2);
        Check.due("learnt", x.pupil(1, 0), 2);
        Check.due("night", x.count(6), 2);
        Check.due("a night", x.undo(), 1);
        Check.due("shift", x.count(3), 1);
        Check.due("night", x.count(6), 1);
        Check.due("a night", x.undo(), 0);
        Check.due("shift", x.count(3), 5);
        Check.due("night", x.count(6), 0);
        Check.due("none", x.undo(), STATE);
    }

    private static void oldestForgotten() {
        KeyDrift x = Check.hall("k7,1,0;p4,1;");
        x.learn(0);
        x.thunder(3);
        x.nights(24);
        Check.due("24 are kept", x.count(7), 24);
        for (int left = 23; left >= 0; left--) {
            Check.due("undo", x.undo(), left);
        }
        Check.due("thunder is forgotten", x.undo(), STATE);
        Check.due("shift", x.count(3), 3);
        Check.due("learnt", x.pupil(0, 0), 0);
        x.tune();
        Check.due("kept anew", x.count(7), 1);
        Check.due("undo", x.undo(), 0);
        Check.due("shift", x.count(3), 3);
    }

    private static void images() {
        KeyDrift x = new KeyDrift();
        Check.due("image 2", x.image(2), BAD);
        Check.due("image -1", x.image(-1), BAD);
        Check.due("image without a hall", x.image(1), STATE);
        Check.tell(x, "k7,2,3;tabc;p1,4;");
        Check.due("restore without an image", x.restore(0), STATE);
        x.nights(1);
        Check.due("image", x.image(0), 1);
        Check.due("acts stay", x.count(7), 1);
        x.nights(4);
        x.learn(0);
        Check.due("another image", x.image(1), 1);
        Check.tell(x, "k3,1,2;");
        Check.due("restore", x.restore(0), 1);
        Check.due("keys", x.count(1), 7);
        Check.due("drift", x.count(2), 2);
        Check.due("shift", x.count(3), 5);
        Check.due("pieces", x.count(4), 1);
        Check.due("pupils", x.count(5), 1);
        Check.due("night", x.count(6), 1);
        Check.due("acts", x.count(7), 0);
        Check.due("undo", x.undo(), STATE);
        Check.due("string", x.piece(0, 2), 2);
        Check.due("learnt", x.pupil(0, 0), 1);
        x.learn(0);
        Check.due("restore again", x.restore(0), 1);
        Check.due("an image stays as it is", x.pupil(0, 0), 1);
        Check.due("restore the other", x.restore(1), 1);
        Check.due("learnt", x.pupil(0, 0), 6);
        Check.due("night", x.count(6), 5);
        Check.due("span", x.pupil(0, 1), 4);
        Check.due("restore 2", x.restore(2), BAD);
        Check.due("restore -1", x.restore(-1), BAD);
    }

    private static void counts() {
        KeyDrift x = Check.hall(Check.FIVE);
        x.row(4, 0, 1);
        x.nights(3);
        x.feed('k');
        x.feed('k');
        int[] wanted = {1, 7, 2, 2, 3, 5, 3, 3, 2};
        for (int what = 0; what < wanted.length; what++) {
            Check.due("count " + what, x.count(what), wanted[what]);
        }
        Check.due("count 9", x.count(9), BAD);
        Check.due("count -1", x.count(-1), BAD);
    }
}
