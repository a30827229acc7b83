/** Promises 19 (soon) to 31 (drawn). */
public final class ForetoldTest {
    private static final int BAD = KeyDrift.BAD, STATE = KeyDrift.STATE, NONE = KeyDrift.NONE;

    public static void main(String[] args) {
        soon();
        nightsOf();
        struck();
        lessons();
        programme();
        chords();
        who();
        tunings();
        other();
        thunderOdds();
        drawn();
        nothingChanges();
        Check.end();
    }

    private static void soon() {
        // SHIFTS from now on: 3, 5, 0, 2, 4, 6, 1, 3, ..; BIASES 3, 5, 3, 3, 6
        KeyDrift x = Check.hall(Check.FIVE);
        Check.due("soon, now", x.soon(0), 0);
        Check.due("soon, 1", x.soon(1), 1);
        Check.due("soon, 5", x.soon(4), 5);
        Check.due("soon of 5", x.soon(5), BAD);
        Check.due("soon of -1", x.soon(-1), BAD);
        Check.due("together, now", x.together(0, 2), 0);
        Check.due("together, never", x.together(0, 1), NONE);
        Check.due("together, alike", x.together(2, 2), BAD);
        Check.due("together, 5", x.together(0, 5), BAD);
        Check.due("together, -1", x.together(-1, 0), BAD);
        Check.due("itself", x.itself(), 2);
        x.nights(1);
        Check.due("soon, 6", x.soon(0), 6);
        Check.due("together, 6", x.together(3, 2), 6);
        x.nights(1);
        Check.due("itself, now", x.itself(), 0);
        KeyDrift odd = Check.hall("k8,2,1;p2,1;p3,1;");
        Check.due("never itself", odd.itself(), NONE);
        Check.due("never", odd.soon(0), NONE);
        Check.due("soon", odd.soon(1), 1);
        KeyDrift far = Check.hall("k12,11,0;p1,1;");
        Check.due("11 nights", far.soon(0), 11);
        Check.due("no hall", new KeyDrift().itself(), STATE);
    }

    private static void nightsOf() {
        KeyDrift x = Check.hall(Check.FIVE);
        Check.due("1", x.nightsOf(0, 1), 1);
        Check.due("7", x.nightsOf(0, 7), 1);
        Check.due("8", x.nightsOf(0, 8), 1 | 1 << 7);
        Check.due("24", x.nightsOf(0, 24), 1 | 1 << 7 | 1 << 14 | 1 << 21);
        Check.due("of the second", x.nightsOf(1, 9), 1 << 1 | 1 << 8);
        Check.due("none", x.nightsOf(4, 5), 0);
        Check.due("n 0", x.nightsOf(0, 0), BAD);
        Check.due("n 25", x.nightsOf(0, 25), BAD);
        Check.due("pupil 5", x.nightsOf(5, 1), BAD);
        Check.due("pupil -1", x.nightsOf(-1, 1), BAD);
        KeyDrift still = Check.hall("k5,0,2;p2,1;");
        Check.due("every night", still.nightsOf(0, 24), (1 << 24) - 1);
    }

    private static void struck() {
        KeyDrift x = Check.hall("k7,2,3;");
        Check.fill(x, 0, 2, 0, 3, 6, 2, 1, 5, 7, 3, -1, 2, 0, 7);
        Check.due("one", x.struck(0, 0, 1, 0), 1 << 3);
        Check.due("one, a lie", x.struck(0, 0, 1, 1), 127);
        Check.due("two", x.struck(0, 0, 2, 0), 1 << 3);
        Check.due("two, a lie", x.struck(0, 0, 2, 1), 1 << 3);
        Check.due("they differ", x.struck(0, 2, 2, 0), 0);
        Check.due("they differ, a lie", x.struck(0, 2, 2, 1), 1 << 3 | 1 << 4);
        Check.due("three, a lie", x.struck(0, 0, 3, 1), 1 << 3);
        Check.due("no such key", x.struck(0, 6, 1, 0), 0);
        Check.due("no such keys, a lie", x.struck(0, 6, 2, 1), 0);
        Check.due("no such string", x.struck(0, 10, 1, 0), 0);
        Check.due("six, a lie", x.struck(0, 0, 6, 1), 0);
        Check.due("beyond", x.struck(0, 11, 1, 0), Check.PLACE);
        Check.due("far beyond", x.struck(0, Integer.MAX_VALUE, 1, 0), Check.PLACE);
        Check.due("i -1", x.struck(0, -1, 1, 0), Check.PLACE);
        Check.due("null", x.struck(1, -1, 1, 0), Check.NULL);
        Check.due("row 8", x.struck(8, 0, 1, 0), BAD);
        Check.due("row -1", x.struck(-1, 0, 1, 0), BAD);
        Check.due("n 0", x.struck(0, 0, 0, 0), BAD);
        Check.due("n 13", x.struck(0, 0, 13, 0), BAD);
        Check.due("lies 2", x.struck(0, 0, 1, 2), BAD);
        Check.due("lies -1", x.struck(0, 0, 1, -1), BAD);
        x.row(1, 0, 24);
        Check.due("twelve", x.struck(1, 0, 12, 0), 1);
        x.row(1, 0, 23);
        Check.due("a half is missing", x.struck(1, 0, 12, 0), Check.PLACE);
        Check.due("no hall, ahead of BAD", new KeyDrift().struck(8, 0, 0, 3), STATE);
    }

    private static void taught(KeyDrift x, int nights, int howMany, int which) {
        Check.due("how many for " + nights, x.lessons(nights, 0), howMany);
        Check.due("which for " + nights, x.lessons(nights, 1), which);
    }

    private static void lessons() {
        // Right as they are: nights 0; 1; 0; 0; 5. Behind a lesson: nights 0; 2; 6; 4; 1.
        KeyDrift x = Check.hall(Check.FIVE);
        taught(x, 0, 0, 0);
        taught(x, 0b100011, 0, 0);
        taught(x, 0b100, 1, 0b10);
        taught(x, 0b110, 2, 0b10010);
        taught(x, 0b1010001, 2, 0b1100);
        taught(x, 0b1000, NONE, NONE);
        taught(x, 0b1110111, NONE, NONE);
        taught(x, 0b1010111, 4, 0b11110);
        taught(x, 1 << 23, 1, 0b10);
        taught(x, 1 << 22, 0, 0);
        KeyDrift alike = Check.hall("k3,0,1;p0,1;p0,1;p0,1;");
        taught(alike, 16777215, 1, 1);
        KeyDrift two = Check.hall("k3,1,1;p1,1;p1,1;");
        taught(two, 1, 0, 0);
        KeyDrift empty = Check.hall("k3,0,1;");
        taught(empty, 0, 0, 0);
        taught(empty, 1, NONE, NONE);
        Check.due("nights -1", x.lessons(-1, 0), BAD);
        Check.due("nights too many", x.lessons(16777216, 0), BAD);
        Check.due("what 2", x.lessons(1, 2), BAD);
        Check.due("what -1", x.lessons(1, -1), BAD);
        Check.due("no hall, ahead of BAD", new KeyDrift().lessons(-1, 2), STATE);
    }

    private static void programme() {
        // PIECE 0 can have NIGHTS 0 and 2, PIECE 1 is reached on NIGHT 0 alone.
        KeyDrift x = Check.hall("k7,1,0;ta;tab;p0,7;p2,1;");
        Check.due("how many", x.programme(3, -1), 1);
        Check.due("piece 0", x.programme(3, 0), 2);
        Check.due("piece 1", x.programme(3, 1), 0);
        Check.due("piece 2", x.programme(3, 2), NONE);
        Check.due("two nights", x.programme(2, -1), 0);
        Check.due("two nights, piece 0", x.programme(2, 0), NONE);
        Check.due("one night", x.programme(1, -1), 0);
        KeyDrift every = Check.hall("k7,0,0;ta;tb;tc;td;p0,1;");
        Check.due("6 5 4 3", every.programme(6, -1), 360);
        Check.due("4 3 2 1", every.programme(4, -1), 24);
        Check.due("too few", every.programme(3, -1), 0);
        for (int k = 0; k < 4; k++) {
            Check.due("the first one", every.programme(6, k), k);
        }
        KeyDrift later = Check.hall("k7,1,0;ta;p1,1;p2,1;p2,1;");
        Check.due("nights 1, 2", later.programme(3, -1), 2);
        Check.due("nights 1", later.programme(2, -1), 1);
        Check.due("not now", later.programme(1, -1), 0);
        Check.due("behind one", later.programme(3, 0), 1);
        KeyDrift none = Check.hall("k7,0,0;");
        Check.due("no pieces", none.programme(1, -1), 1);
        Check.due("no pieces, the first", none.programme(1, 0), NONE);
        Check.due("n 0", x.programme(0, -1), BAD);
        Check.due("n 7", x.programme(7, -1), BAD);
        Check.due("k -2", x.programme(1, -2), BAD);
        Check.due("k 4", x.programme(1, 4), BAD);
        Check.due("no hall, ahead of BAD", new KeyDrift().programme(0, 9), STATE);
    }

    private static void chords() {
        KeyDrift x = Check.hall("k6,4,1;");
        int[] wanted = {0, 0b010101, 0b101010, 0b111111};
        Check.due("how many", x.chords(-1), 4);
        for (int k = 0; k < 4; k++) {
            Check.due("chord " + k, x.chords(k), wanted[k]);
        }
        Check.due("behind the last", x.chords(4), NONE);
        Check.due("far behind", x.chords(Integer.MAX_VALUE), NONE);
        Check.due("k -2", x.chords(-2), BAD);
        KeyDrift still = Check.hall("k12,0,1;");
        Check.due("all", still.chords(-1), 4096);
        Check.due("some", still.chords(1234), 1234);
        Check.due("the last", still.chords(4095), 4095);
        Check.due("behind", still.chords(4096), NONE);
        KeyDrift nine = Check.hall("k12,9,0;");
        Check.due("by 3", nine.chords(-1), 8);
        Check.due("the second", nine.chords(1), 0b001001001001);
        Check.due("no hall, ahead of BAD", new KeyDrift().chords(-2), STATE);
    }

    private static void who() {
        // LEARNT 3 by KINDS 1 to 5 is BIAS 3, 0, 1, 4, 5; SHIFT 3
        KeyDrift x = Check.hall(Check.FIVE);
        int[][] told = {{0, 1, 2}, {3, 4, 5}, {2, 3, 4}, {6, 0, 1}, {5, 6, 0}};
        for (int kind = 1; kind <= 5; kind++) {
            Check.fill(x, 0, kind % 3, told[kind - 1]);
            Check.due("who, kind " + kind, x.who(0, 0, 0, 0), 1 << kind);
        }
        Check.fill(x, 0, 0, 9, 0, 1, 3, 0, 1, 2);
        Check.due("the last is wrong", x.who(0, 0, 0, 1), 0);
        Check.due("from 4 on", x.who(0, 0, 0, 4), 1 << 1);
        Check.due("beyond", x.who(0, 0, 0, 5), Check.PLACE);
        Check.due("i -1", x.who(0, 0, 0, -1), Check.PLACE);
        Check.due("i, greatest", x.who(0, 0, 0, Integer.MAX_VALUE), Check.PLACE);
        Check.fill(x, 1, 0, 7, 8, 9);
        Check.due("no such strings", x.who(0, 0, 1, 0), 0);
        Check.due("null", x.who(0, 0, 2, 0), Check.NULL);
        Check.due("row 8", x.who(0, 0, 8, 0), BAD);
        Check.due("row -1", x.who(0, 0, -1, 0), BAD);
        Check.due("piece 3", x.who(0, 3, 0, 0), BAD);
        Check.due("pupil 5", x.who(5, 0, 0, 0), BAD);
        Check.due("pupil -1", x.who(-1, 0, 0, 0), BAD);
        KeyDrift two = Check.hall("k2,1,0;ta;p0,1;");
        Check.fill(two, 0, 0, 0);
        Check.due("many", two.who(0, 0, 0, 0), 1 << 1 | 1 << 2 | 1 << 3 | 1 << 4);
    }

    private static void tunings() {
        KeyDrift x = Check.hall("k12,5,0;");
        Check.due("5", x.tunings(1, 6), 0);
        Check.due("5, 10", x.tunings(2, 6), 1);
        Check.due("twice", x.tunings(4, 6), 2);
        Check.due("5 nights", x.tunings(5, 6), 2);
        Check.due("each", x.tunings(60, 4), 60);
        Check.due("never", x.tunings(60, 11), 0);
        Check.due("10 may be", x.tunings(2, 10), 0);
        Check.due("5, 10, 3, 8, 1, 6, 11", x.tunings(7, 10), 1);
        KeyDrift still = Check.hall("k12,0,5;");
        Check.due("once", still.tunings(60, 4), 1);
        Check.due("no need", still.tunings(60, 5), 0);
        Check.due("each, at 0", x.tunings(60, 0), 60);
        Check.due("5, tuned, 5, tuned", x.tunings(4, 5), 2);
        Check.due("none at 0", Check.hall("k12,0,0;").tunings(60, 0), 0);
        Check.due("n 0", x.tunings(0, 0), BAD);
        Check.due("n 61", x.tunings(61, 0), BAD);
        Check.due("t -1", x.tunings(1, -1), BAD);
        Check.due("t 12", x.tunings(1, 12), BAD);
        Check.due("no hall, ahead of BAD", new KeyDrift().tunings(0, 0), STATE);
    }

    private static void other() {
        KeyDrift x = Check.hall("k7,2,3;");
        Check.due("now", x.other(5, 3), 0);
        Check.due("1", x.other(3, 2), 1);
        Check.due("4", x.other(1, 0), 4);
        Check.due("6", x.other(1, 2), 6);
        Check.due("never", x.other(2, 4), NONE);
        Check.due("it stands still: 3 and 2 d is 0", x.other(0, 0), 2);
        Check.due("drift 7", x.other(7, 0), BAD);
        Check.due("shift 7", x.other(0, 7), BAD);
        Check.due("drift -1", x.other(-1, 0), BAD);
        Check.due("shift -1", x.other(0, -1), BAD);
        Check.due("no hall, ahead of BAD", new KeyDrift().other(-1, 0), STATE);
    }

    private static void odds(KeyDrift x, int pupil, int p, int n, long above, long below) {
        String what = "odds " + pupil + " " + p + " " + n;
        Check.due(what + " above", x.thunderOdds(pupil, p, n, 0), above);
        Check.due(what + " below", x.thunderOdds(pupil, p, n, 1), below);
    }

    private static void thunderOdds() {
        KeyDrift x = Check.hall(Check.FIVE);
        odds(x, 0, 4, 0, 1, 1);
        odds(x, 1, 4, 0, 0, 1);
        odds(x, 1, 4, 1, 3, 5);
        odds(x, 4, 4, 1, 2, 5);
        odds(x, 0, 4, 1, 0, 1);
        odds(x, 1, 0, 1, 1, 1);
        odds(x, 1, 10, 1, 0, 1);
        odds(x, 4, 10, 1, 1, 1);
        odds(x, 4, 0, 1, 0, 1);
        // Behind 4 NIGHTS the SHIFT is 4: one thunder for BIAS 5, 4 times 3 by 7 by 7 by 7.
        odds(x, 1, 3, 4, 1029, 2500);
        KeyDrift two = Check.hall("k2,0,0;p0,1;");
        odds(two, 0, 3, 2, 29, 50);
        // 0, 2, 4 or 6 thunders: 531441 and 15 times 6561 and 15 times 81 and 1, of 1000000.
        odds(two, 0, 1, 6, 19721, 31250);
        Check.due("p -1", x.thunderOdds(0, -1, 1, 0), BAD);
        Check.due("p 11", x.thunderOdds(0, 11, 1, 0), BAD);
        Check.due("n -1", x.thunderOdds(0, 1, -1, 0), BAD);
        Check.due("n 7", x.thunderOdds(0, 1, 7, 0), BAD);
        Check.due("what 2", x.thunderOdds(0, 1, 1, 2), BAD);
        Check.due("what -1", x.thunderOdds(0, 1, 1, -1), BAD);
        Check.due("pupil 5", x.thunderOdds(5, 1, 1, 0), BAD);
        Check.due("pupil -1", x.thunderOdds(-1, 1, 1, 0), BAD);
    }

    private static void drawn() {
        // X: 16807, 282475249, 1622650073, 984943658, 1144108930 (by 5: 0; by 7: 6)
        KeyDrift x = Check.hall(Check.FIVE);
        Check.due("none", x.drawn(0, 1, 0), 3);
        Check.due("none, right", x.drawn(0, 1, 1), 0);
        Check.due("4", x.drawn(4, 1, 0), 4);
        Check.due("4, right", x.drawn(4, 1, 1), 1);
        Check.due("5", x.drawn(5, 1, 0), 5);
        Check.due("5, right", x.drawn(5, 1, 1), 2);
        KeyDrift twins = Check.hall("k7,2,3;p5,1;p5,1;");
        Check.due("twins", twins.drawn(5, 1, 1), 2);
        KeyDrift single = Check.hall("k7,2,3;p5,1;");
        Check.due("a single one", single.drawn(5, 1, 1), 2);
        Check.due("n -1", x.drawn(-1, 1, 0), BAD);
        Check.due("n 61", x.drawn(61, 1, 0), BAD);
        Check.due("seed 0", x.drawn(1, 0, 0), BAD);
        Check.due("seed 1000000", x.drawn(1, 1000000, 0), BAD);
        Check.due("what 2", x.drawn(1, 1, 2), BAD);
        Check.due("what -1", x.drawn(1, 1, -1), BAD);
        Check.holds("60 nights, the greatest seed", x.drawn(60, 999999, 0) >= 0);
        Check.due("no hall, ahead of BAD", new KeyDrift().drawn(-1, 0, 0), STATE);
    }

    private static void nothingChanges() {
        KeyDrift x = Check.hall(Check.FIVE);
        x.nights(2);
        x.row(0, 0, 4);
        x.soon(0);
        x.together(0, 1);
        x.itself();
        x.nightsOf(0, 24);
        x.struck(0, 0, 2, 1);
        x.lessons(127, 1);
        x.programme(6, 0);
        x.chords(1);
        x.who(0, 0, 0, 0);
        x.tunings(60, 1);
        x.other(1, 1);
        x.thunderOdds(0, 5, 6, 0);
        x.drawn(60, 77, 1);
        Check.due("shift", x.count(3), 0);
        Check.due("night", x.count(6), 2);
        Check.due("acts", x.count(7), 2);
        int[] learnt = {3, 1, 5, 4, 2};
        for (int one = 0; one < 5; one++) {
            Check.due("learnt " + one, x.pupil(one, 0), learnt[one]);
        }
    }
}
