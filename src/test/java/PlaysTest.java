/** Promises 14 (piece), 15 (pupil), 16 (plays), 17 (heard), 18 (strike). */
public final class PlaysTest {
    private static final int BAD = KeyDrift.BAD, STATE = KeyDrift.STATE, NONE = KeyDrift.NONE;

    public static void main(String[] args) {
        piece();
        pupil();
        plays();
        heard();
        strike();
        Check.end();
    }

    private static void piece() {
        KeyDrift x = Check.hall(Check.FIVE);
        Check.due("how many", x.piece(1, -1), 3);
        Check.due("g", x.piece(1, 0), 6);
        Check.due("f", x.piece(1, 1), 5);
        Check.due("a", x.piece(1, 2), 0);
        Check.due("behind the last", x.piece(1, 3), NONE);
        Check.due("far behind", x.piece(1, Integer.MAX_VALUE), NONE);
        Check.due("k", x.piece(1, -2), BAD);
        Check.due("piece 3", x.piece(3, 0), BAD);
        Check.due("piece -1", x.piece(-1, 0), BAD);
        Check.due("BAD ahead of NONE", x.piece(3, 99), BAD);
        Check.due("no hall", new KeyDrift().piece(0, -1), BAD);
    }

    private static void pupil() {
        KeyDrift x = Check.hall(Check.FIVE);
        // BIAS by KEYS 7, DRIFT 2: 3; 1 + 4; 5 - 2; -4; -2 + 1
        int[][] wanted = {{3, 4, 3, 1}, {1, 7, 5, 0}, {5, 2, 3, 1}, {4, 12, 3, 1}, {2, 3, 6, 0}};
        for (int one = 0; one < 5; one++) {
            for (int what = 0; what < 4; what++) {
                Check.due("pupil " + one + " " + what, x.pupil(one, what), wanted[one][what]);
            }
        }
        x.nights(1);
        Check.due("right no more", x.pupil(0, 3), 0);
        Check.due("right now", x.pupil(1, 3), 1);
        Check.due("what 4", x.pupil(0, 4), BAD);
        Check.due("what -1", x.pupil(0, -1), BAD);
        Check.due("pupil 5", x.pupil(5, 0), BAD);
        Check.due("pupil -1", x.pupil(-1, 0), BAD);
        KeyDrift two = Check.hall("k2,1,0;v1,1;s0,1;c0,1;m0,1;m1,1;");
        Check.due("ahead of 2", two.pupil(0, 2), 1);
        Check.due("shamed of 2", two.pupil(1, 2), 0);
        Check.due("carrier of 2", two.pupil(2, 2), 0);
        Check.due("cat of 2", two.pupil(3, 2), 1);
        Check.due("cat of 2, 1", two.pupil(4, 2), 0);
    }

    private static void plays() {
        KeyDrift x = Check.hall("k7,2,3;tabc;tag;p0,3;p5,3;p1,7;p0,2;p0,6;");
        Check.due("reaches", x.plays(0, 0, 0), 1);
        Check.due("least", x.plays(0, 0, 1), 0);
        Check.due("greatest", x.plays(0, 0, 2), 2);
        Check.due("two above is not less than 2", x.plays(3, 0, 0), 0);
        Check.due("5: keys 2, 3, 4", x.plays(1, 0, 1), 2);
        Check.due("greatest", x.plays(1, 0, 2), 4);
        Check.due("5: keys 2, 1", x.plays(1, 1, 0), 1);
        Check.due("1: keys 6, 0, 1", x.plays(2, 0, 1), 0);
        Check.due("greatest", x.plays(2, 0, 2), 6);
        Check.due("six above is less than 7", x.plays(2, 0, 0), 1);
        Check.due("six above is not less than 6", x.plays(4, 1, 0), 0);
        x.nights(3);
        Check.due("nights do not move hands", x.plays(1, 0, 1), 2);
        KeyDrift shorter = Check.hall("k7,0,0;tgggggggg;");
        Check.tell(shorter, "k7,0,0;tb;p0,1;");
        Check.due("what was longer before, least", shorter.plays(0, 0, 1), 1);
        Check.due("what was longer before, greatest", shorter.plays(0, 0, 2), 1);
        Check.due("what 3", x.plays(0, 0, 3), BAD);
        Check.due("what -1", x.plays(0, 0, -1), BAD);
        Check.due("pupil 5", x.plays(5, 0, 0), BAD);
        Check.due("pupil -1", x.plays(-1, 0, 0), BAD);
        Check.due("piece 2", x.plays(0, 2, 0), BAD);
        Check.due("piece -1", x.plays(0, -1, 0), BAD);
    }

    private static void heard() {
        KeyDrift x = Check.hall(Check.FIVE);
        Check.due("right: a", x.heard(0, 0, 0), 0);
        Check.due("right: c", x.heard(0, 0, 2), 2);
        Check.due("ahead: 0 - 5 + 3", x.heard(1, 0, 0), 5);
        Check.due("ahead: 2 - 5 + 3", x.heard(1, 0, 2), 0);
        Check.due("cat: 6 - 6 + 3", x.heard(4, 1, 0), 3);
        x.nights(1);
        Check.due("right no more: 0 - 3 + 5", x.heard(0, 0, 0), 2);
        Check.due("right now", x.heard(1, 1, 1), 5);
        Check.due("k", x.heard(0, 0, 3), BAD);
        Check.due("k -1", x.heard(0, 0, -1), BAD);
        Check.due("pupil", x.heard(5, 0, 0), BAD);
        Check.due("piece", x.heard(0, 3, 0), BAD);
        Check.due("piece -1", x.heard(0, -1, 0), BAD);
    }

    private static void strike() {
        KeyDrift x = Check.hall(Check.FIVE);
        Check.due("0", x.strike(0), 3);
        Check.due("3", x.strike(3), 6);
        Check.due("4", x.strike(4), 0);
        Check.due("6", x.strike(6), 2);
        Check.due("7", x.strike(7), BAD);
        Check.due("-1", x.strike(-1), BAD);
        Check.due("no hall, ahead of BAD", new KeyDrift().strike(-1), STATE);
    }
}
