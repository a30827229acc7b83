import java.util.function.Supplier;

/** Boundaries of what is done and played: 'Terms' 2, promises 9 to 18, 32 and 33. */
final class BoundsOfDeeds {
    private static final int BAD = KeyDrift.BAD, STATE = KeyDrift.STATE, FULL = KeyDrift.FULL, NONE = KeyDrift.NONE;
    private static final int MIN = Integer.MIN_VALUE, MAX = Integer.MAX_VALUE;
    private static final Supplier<KeyDrift> TOLD = Twins::told, BARE = Twins::bare, LATE = Twins::late;

    private BoundsOfDeeds() {
    }

    static void all() {
        leftOver();
        strings();
        biases();
        right();
        reaches();
        reachesWithinSpans();
        actsKept();
        oldestForgotten();
        latestFirst();
        actsThatChangeNothing();
        undoAll();
        undoRefused();
        nights();
        nightsRefused();
        lastNight();
        thunder();
        thunderRefused();
        tune();
        learn();
        piece();
        pupil();
        plays();
        heard();
        strike();
        image();
        restore();
        imageOfOwn();
    }

    private static String five(int keys, int drift, int shift, int learnt) {
        StringBuilder text = new StringBuilder("k" + keys + "," + drift + "," + shift + ";ta" + (char) ('a' + keys - 1) + ";");
        for (String sort : new String[] {"p", "v", "s", "c", "m"}) {
            text.append(sort).append(learnt).append(",12;");
        }
        return text.toString();
    }

    private static int bias(int kind, int learnt, int drift) {
        int[] by = {0, learnt, learnt + 2 * drift, learnt - 2, -learnt, 1 - learnt};
        return by[kind];
    }

    private static void leftOver() {
        Document.says("Terms 2", "All is by KEYS left over (0 at least).");
        KeyDrift x = Check.hall("k2,1,1;tab;p1,1;v1,1;s0,1;c1,1;m1,1;");
        int[] biases = {1, 3 % 2, 0, 1, 0};
        for (int one = 0; one < 5; one++) {
            Check.due("bias of 2 keys", x.pupil(one, 2), biases[one]);
        }
        Check.due("above: 1 and 1", x.nights(1), 0);
        Check.due("above: 0 and 11", x.thunder(11), 1);
        Check.due("above: key 1 and shift 1", x.strike(1), 0);
        Check.due("below: string 0 less 1", x.plays(0, 0, 2), 1);
        KeyDrift y = Check.hall("k12,11,11;tal;p11,1;v11,1;s0,1;s1,1;m0,1;");
        int[] others = {11, 33 - 24, 10, 11, 1};
        for (int one = 0; one < 5; one++) {
            Check.due("bias of 12 keys", y.pupil(one, 2), others[one]);
        }
        Check.due("0 less 11 and 11", y.heard(0, 0, 0), 0);
        Check.due("0 less 9 and 11", y.heard(1, 0, 0), 2);
        Check.due("11 less 1 and 11", y.heard(4, 0, 1), 9);
        Check.due("above: 11 and 11", y.nights(1), 10);
        Check.due("above: 10 and 2 is none left over", y.thunder(2), 0);
        Check.due("none left over", y.count(3), 0);
    }

    private static void strings() {
        Document.says("Terms 2", "Who strikes key x hears string x and SHIFT.");
        Document.says("Promise 18", "The string a key gives.");
        for (int keys = 2; keys <= 12; keys++) {
            for (int shift = 0; shift < keys; shift++) {
                KeyDrift x = Check.hall("k" + keys + ",0," + shift + ";");
                for (int key = 0; key < keys; key++) {
                    Check.due("strike", x.strike(key), (key + shift) % keys);
                }
                Check.due("behind the last key", x.strike(keys), BAD);
                Check.due("ahead of the first", x.strike(-1), BAD);
            }
        }
    }

    private static void biases() {
        Document.says("Terms 2", "A pupil plays by a BIAS: a player LEARNT; one who plays ahead LEARNT and 2 "
            + "times DRIFT; a shamed one LEARNT less 2; a carrier 0 less LEARNT; a cat as a carrier, and 1 more. "
            + "For a string of a piece it strikes that less its BIAS.");
        for (int keys = 2; keys <= 12; keys++) {
            for (int drift = 0; drift < keys; drift++) {
                for (int learnt = 0; learnt < keys; learnt++) {
                    KeyDrift x = Check.hall(five(keys, drift, keys - 1, learnt));
                    for (int one = 0; one < 5; one++) {
                        int bias = bias(one + 1, learnt, drift);
                        int first = Math.floorMod(-bias, keys);
                        int last = Math.floorMod(keys - 1 - bias, keys);
                        Check.due("bias", x.pupil(one, 2), Math.floorMod(bias, keys));
                        Check.due("least key", x.plays(one, 0, 1), Math.min(first, last));
                        Check.due("greatest key", x.plays(one, 0, 2), Math.max(first, last));
                        Check.due("heard of the first", x.heard(one, 0, 0), (first + keys - 1) % keys);
                        Check.due("heard of the last", x.heard(one, 0, 1), (last + keys - 1) % keys);
                    }
                }
            }
        }
    }

    private static void right() {
        Document.says("Terms 2", "It plays RIGHT, if BIAS is SHIFT.");
        for (int shift = 0; shift < 5; shift++) {
            for (int learnt = 0; learnt < 5; learnt++) {
                KeyDrift x = Check.hall(five(5, 3, shift, learnt));
                for (int one = 0; one < 5; one++) {
                    boolean isRight = Math.floorMod(bias(one + 1, learnt, 3) - shift, 5) == 0;
                    Check.due("right", x.pupil(one, 3), isRight ? 1 : 0);
                    Check.due("what is right is heard as it is", x.heard(one, 0, 1) == 4 ? 1 : 0, isRight ? 1 : 0);
                }
            }
        }
    }

    private static void reaches() {
        Document.says("Terms 2", "It REACHES a piece, if of the keys it strikes (as numbers from 0 on) the "
            + "greatest is less than SPAN above the least.");
        for (int span = 1; span <= 12; span++) {
            for (int string = 0; string < 12; string++) {
                KeyDrift x = Check.hall("k12,0,0;ta" + (char) ('a' + string) + ";p0," + span + ";");
                Check.due("keys 0 and " + string + " by " + span, x.plays(0, 0, 0), string < span ? 1 : 0);
            }
        }
        // Strings 0 and 1 are next to each other; by LEARNT 1 they are keys 11 and 0, by numbers far apart.
        KeyDrift wide = Check.hall("k12,0,0;tab;p1,11;p1,12;p2,2;p2,1;p0,2;");
        int[] wanted = {0, 1, 1, 0, 1};
        for (int one = 0; one < 5; one++) {
            Check.due("next to each other, pupil " + one, wide.plays(one, 0, 0), wanted[one]);
        }
    }

    private static void reachesWithinSpans() {
        Document.says("Terms 2", "the greatest is less than SPAN above the least.");
        KeyDrift x = Check.hall("k12,0,0;th;thhhhhhhh;thgh;p0,1;p7,1;p8,1;p0,2;p7,2;");
        for (int one = 0; one < 5; one++) {
            Check.due("a single string", x.plays(one, 0, 0), 1);
            Check.due("eight alike", x.plays(one, 1, 0), 1);
        }
        Check.due("two, span 1", x.plays(0, 2, 0), 0);
        Check.due("two, span 2", x.plays(3, 2, 0), 1);
        Check.due("keys 0 and 11, span 2", x.plays(4, 2, 0), 0);
    }

    private static void actsKept() {
        Document.says("Terms 2", "ACTS (24 at most are kept");
        KeyDrift x = Check.hall("k12,1,0;p5,1;");
        for (int acts = 1; acts <= 30; acts++) {
            switch (acts % 4) {
                case 0: x.nights(1); break;
                case 1: x.thunder(3); break;
                case 2: x.learn(0); break;
                default: x.tune(); break;
            }
            Check.due("acts", x.count(7), Math.min(acts, 24));
        }
        for (int left = 23; left >= 0; left--) {
            Check.due("undo", x.undo(), left);
            Check.due("acts", x.count(7), left);
        }
        Check.due("no more", x.undo(), STATE);
        KeyDrift y = Check.hall("k12,1,0;");
        Check.due("24 nights", y.nights(24), 0);
        Check.due("acts", y.count(7), 24);
        Check.due("23 nights and 1", Check.tell(y, "k12,1,0;"), 0);
        y.nights(23);
        Check.due("acts", y.count(7), 23);
        y.nights(1);
        Check.due("acts", y.count(7), 24);
        y.nights(1);
        Check.due("acts", y.count(7), 24);
    }

    /** Of 25 ACTS the first one, of each sort, stays done when all that can be undone is undone. */
    private static void oldestForgotten() {
        Document.says("Terms 2", "of more the oldest is forgotten;");
        Twins.Call[] oldest = {x -> x.nights(1), x -> x.thunder(5), x -> x.tune(), x -> x.learn(0)};
        int[][] wanted = {{6, 2, 1}, {10, 2, 0}, {0, 2, 0}, {5, 5, 0}};
        for (int i = 0; i < oldest.length; i++) {
            KeyDrift x = Check.hall("k12,1,5;p2,1;");
            oldest[i].on(x);
            for (int acts = 0; acts < 8; acts++) {
                x.thunder(1);
                x.learn(0);
                x.tune();
            }
            undoAll(x, 24);
            Check.due("shift behind oldest " + i, x.count(3), wanted[i][0]);
            Check.due("learnt behind oldest " + i, x.pupil(0, 0), wanted[i][1]);
            Check.due("night behind oldest " + i, x.count(6), wanted[i][2]);
        }
        KeyDrift y = Check.hall("k12,1,5;p2,1;");
        y.nights(24);
        y.nights(24);
        undoAll(y, 24);
        Check.due("night", y.count(6), 24);
        y.nights(10);
        undoAll(y, 10);
        Check.due("night", y.count(6), 24);
        Check.due("shift", y.count(3), (5 + 24) % 12);
    }

    private static void undoAll(KeyDrift x, int acts) {
        for (int left = acts - 1; left >= 0; left--) {
            Check.due("undo", x.undo(), left);
        }
        Check.due("none is left", x.undo(), STATE);
    }

    private static void latestFirst() {
        Document.says("Terms 2", "each can be undone, the latest first)");
        Document.says("Terms 2", "a NIGHT (SHIFT is DRIFT more); thunder (SHIFT is that more); tuning (SHIFT is "
            + "0); a lesson (LEARNT of a pupil is SHIFT).");
        KeyDrift x = Check.hall("k7,5,6;c3,1;c1,1;");
        Check.due("a night", x.nights(1), 4);
        Check.due("thunder", x.thunder(11), 1);
        Check.due("a lesson", x.learn(1), 1);
        Check.due("thunder", x.thunder(1), 2);
        Check.due("a lesson", x.learn(0), 3);
        Check.due("tuning", x.tune(), 2);
        Check.due("a lesson", x.learn(1), 1);
        int[][] behind = {{6, 0, 2, 1, 1}, {5, 2, 2, 1, 1}, {4, 2, 3, 1, 1}, {3, 1, 3, 1, 1}, {2, 1, 3, 1, 1},
            {1, 4, 3, 1, 1}, {0, 6, 3, 1, 0}};
        for (int[] due : behind) {
            Check.due("undo", x.undo(), due[0]);
            Check.due("shift", x.count(3), due[1]);
            Check.due("learnt of 0", x.pupil(0, 0), due[2]);
            Check.due("learnt of 1", x.pupil(1, 0), due[3]);
            Check.due("night", x.count(6), due[4]);
        }
    }

    private static void actsThatChangeNothing() {
        Document.says("Terms 2", "each can be undone");
        KeyDrift x = Check.hall("k5,0,0;p0,1;");
        Check.due("tuning at 0", x.tune(), 0);
        Check.due("a lesson of what is known", x.learn(0), 0);
        Check.due("a night without a drift", x.nights(1), 0);
        Check.due("thunder all the way round", x.thunder(5), 0);
        Check.due("acts", x.count(7), 4);
        undoAll(x, 4);
        Check.due("night", x.count(6), 0);
    }

    private static void undoAll() {
        Document.says("Promise 9", "The latest ACT is undone: how many can be undone yet.");
        KeyDrift x = Check.hall(Check.FIVE);
        x.tune();
        Check.due("the only one", x.undo(), 0);
        Check.due("shift", x.count(3), 3);
        x.nights(24);
        Check.due("one of 24", x.undo(), 23);
        Check.due("night", x.count(6), 23);
        x.thunder(1);
        Check.due("acts", x.count(7), 24);
        Check.due("what came in its place", x.undo(), 23);
        Check.due("night", x.count(6), 23);
    }

    private static void undoRefused() {
        Document.says("Promise 9", "STATE: none.");
        Twins.refused(BARE, "undo without a HALL", STATE, KeyDrift::undo);
        Supplier<KeyDrift> undone = () -> {
            KeyDrift x = Twins.told();
            while (x.count(7) > 0) {
                x.undo();
            }
            return x;
        };
        Twins.refused(undone, "undo behind all", STATE, KeyDrift::undo);
        Supplier<KeyDrift> restored = () -> {
            KeyDrift x = Twins.told();
            x.restore(0);
            return x;
        };
        Twins.refused(restored, "undo behind restore", STATE, KeyDrift::undo);
    }

    private static void nights() {
        Document.says("Promise 10", "n NIGHTS (1 to 24), an ACT each: SHIFT.");
        for (int n = 1; n <= 24; n++) {
            KeyDrift x = Check.hall("k12,7,11;");
            Check.due("nights", x.nights(n), (11 + 7 * n) % 12);
            Check.due("shift", x.count(3), (11 + 7 * n) % 12);
            Check.due("night", x.count(6), n);
            Check.due("acts", x.count(7), n);
            for (int left = n - 1; left >= 0; left--) {
                Check.due("undo", x.undo(), left);
                Check.due("shift", x.count(3), (11 + 7 * left) % 12);
                Check.due("night", x.count(6), left);
            }
        }
    }

    private static void nightsRefused() {
        Document.says("Promise 10", "BAD; STATE: no HALL (ahead of BAD);");
        for (int n : new int[] {MIN, -1, 0, 25, MAX}) {
            Twins.refused(TOLD, "nights " + n, BAD, x -> x.nights(n));
            Twins.refused(LATE, "nights " + n + ", FULL too", BAD, x -> x.nights(n));
            Twins.refused(BARE, "nights " + n + " without a HALL", STATE, x -> x.nights(n));
        }
        Twins.refused(BARE, "nights without a HALL", STATE, x -> x.nights(1));
    }

    private static void lastNight() {
        Document.says("Promise 10", "FULL: NIGHT would be above 999.");
        for (int n : new int[] {10, 11, 24}) {
            Twins.refused(LATE, "nights " + n + " from 990 on", FULL, x -> x.nights(n));
        }
        KeyDrift x = Twins.late();
        Check.due("990", x.count(6), 990);
        Check.holds("to 999", x.nights(9) >= 0);
        Check.due("999", x.count(6), 999);
        Check.due("to 1000", x.nights(1), FULL);
        Check.due("999 yet", x.count(6), 999);
        Check.holds("thunder is no night", x.thunder(1) >= 0);
        Check.holds("tuning is none", x.tune() >= 0);
        Check.holds("a lesson is none", x.learn(0) >= 0);
        Check.holds("soon looks on", x.soon(0) >= NONE);
        for (int i = 0; i < 4; i++) {
            x.undo();
        }
        Check.due("a night undone", x.count(6), 998);
        Check.due("two", x.nights(2), FULL);
        Check.holds("one", x.nights(1) >= 0);
        Check.due("999 again", x.count(6), 999);
        Check.due("a new HALL has night 0", Check.tell(x, "k7,0,0;"), -1000107);
        Check.due("the tape was not empty", Check.tell(x, "k7,0,0;"), 0);
        Check.due("nights", x.nights(24), 0);
    }

    private static void thunder() {
        Document.says("Promise 11", "Thunder (1 to 11): SHIFT.");
        for (int keys = 2; keys <= 12; keys++) {
            for (int by = 1; by <= 11; by++) {
                KeyDrift x = Check.hall("k" + keys + ",1," + (keys - 1) + ";");
                Check.due("thunder", x.thunder(by), (keys - 1 + by) % keys);
                Check.due("shift", x.count(3), (keys - 1 + by) % keys);
                Check.due("night", x.count(6), 0);
                Check.due("undo", x.undo(), 0);
                Check.due("shift", x.count(3), keys - 1);
            }
        }
    }

    private static void thunderRefused() {
        Document.says("Promise 11", "BAD; STATE: no HALL (ahead of BAD).");
        for (int by : new int[] {MIN, -1, 0, 12, MAX}) {
            Twins.refused(TOLD, "thunder " + by, BAD, x -> x.thunder(by));
            Twins.refused(BARE, "thunder " + by + " without a HALL", STATE, x -> x.thunder(by));
        }
        Twins.refused(BARE, "thunder without a HALL", STATE, x -> x.thunder(1));
    }

    private static void tune() {
        Document.says("Promise 12", "Tuning: SHIFT as it was.");
        for (int shift = 0; shift < 12; shift++) {
            KeyDrift x = Check.hall("k12,5," + shift + ";");
            Check.due("tune", x.tune(), shift);
            Check.due("shift", x.count(3), 0);
            Check.due("again", x.tune(), 0);
            Check.due("acts", x.count(7), 2);
        }
        Document.says("Promise 12", "STATE: no HALL.");
        Twins.refused(BARE, "tune", STATE, KeyDrift::tune);
    }

    private static void learn() {
        Document.says("Promise 13", "A lesson: LEARNT as it was. BAD.");
        for (int one = 0; one < 5; one++) {
            KeyDrift x = Check.hall("k12,1,11;p0,1;v1,1;s2,1;c3,1;m4,1;");
            Check.due("learn", x.learn(one), one);
            Check.due("again", x.learn(one), 11);
            for (int other = 0; other < 5; other++) {
                Check.due("learnt", x.pupil(other, 0), other == one ? 11 : other);
            }
        }
        for (int one : new int[] {MIN, -1, 5, MAX}) {
            Twins.refused(TOLD, "learn of " + one, BAD, x -> x.learn(one));
            Twins.refused(BARE, "learn of " + one, BAD, x -> x.learn(one));
        }
        Twins.refused(BARE, "learn without a HALL", BAD, x -> x.learn(0));
        Check.due("no pupils", Check.hall("k2,0,0;ta;").learn(0), BAD);
        Check.due("one pupil", Check.hall("k2,0,0;p1,1;").learn(1), BAD);
    }

    private static void piece() {
        Document.says("Promise 14", "Of a PIECE: the k-th string (0 on), how many (k = -1). NONE: no such one. "
            + "BAD: k below -1.");
        KeyDrift x = Check.hall("k12,0,0;ta;tlkjihgfe;");
        Check.due("how many, 1", x.piece(0, -1), 1);
        Check.due("the only one", x.piece(0, 0), 0);
        Check.due("behind it", x.piece(0, 1), NONE);
        Check.due("how many, 8", x.piece(1, -1), 8);
        Check.due("the first", x.piece(1, 0), 11);
        Check.due("the last", x.piece(1, 7), 4);
        Check.due("behind the last", x.piece(1, 8), NONE);
        Twins.tells(TOLD, "piece", y -> y.piece(0, 0));
        Twins.tells(TOLD, "piece, how many", y -> y.piece(2, -1));
        Twins.tells(TOLD, "piece, none", y -> y.piece(2, 4));
        Twins.tells(TOLD, "piece, none, the greatest", y -> y.piece(2, MAX));
        for (int k : new int[] {MIN, -2}) {
            Twins.refused(TOLD, "piece, k " + k, BAD, y -> y.piece(0, k));
        }
        for (int piece : new int[] {MIN, -1, 3, 4, MAX}) {
            Twins.refused(TOLD, "piece " + piece, BAD, y -> y.piece(piece, -1));
            Twins.refused(TOLD, "piece " + piece + ", NONE too", BAD, y -> y.piece(piece, 8));
            Twins.refused(BARE, "piece " + piece, BAD, y -> y.piece(piece, 0));
        }
        Twins.refused(BARE, "piece without a HALL", BAD, y -> y.piece(0, -1));
    }

    private static void pupil() {
        Document.says("Promise 15", "Of a pupil: 0 LEARNT, 1 SPAN, 2 BIAS, 3 whether it plays RIGHT (1, 0). BAD.");
        KeyDrift x = Check.hall("k12,3,4;p4,1;c8,12;s0,5;v11,7;m9,2;");
        int[][] wanted = {{4, 1, 4, 1}, {8, 12, 4, 1}, {0, 5, 10, 0}, {11, 7, 5, 0}, {9, 2, 4, 1}};
        for (int one = 0; one < 5; one++) {
            for (int what = 0; what < 4; what++) {
                Check.due("pupil " + one + ", " + what, x.pupil(one, what), wanted[one][what]);
            }
        }
        for (int what = 0; what < 4; what++) {
            int asked = what;
            Twins.tells(TOLD, "pupil, " + what, y -> y.pupil(4, asked));
        }
        for (int what : new int[] {MIN, -1, 4, MAX}) {
            Twins.refused(TOLD, "pupil, what " + what, BAD, y -> y.pupil(0, what));
        }
        for (int one : new int[] {MIN, -1, 5, MAX}) {
            Twins.refused(TOLD, "pupil " + one, BAD, y -> y.pupil(one, 0));
        }
        Twins.refused(BARE, "pupil without a HALL", BAD, y -> y.pupil(0, 0));
    }

    private static void plays() {
        Document.says("Promise 16", "Of a pupil, a PIECE: 0 whether it REACHES it (1, 0), 1 the least key it "
            + "strikes, 2 the greatest. BAD.");
        KeyDrift x = Check.hall("k12,0,0;tb;tal;tahahahah;p0,12;p1,7;p2,8;p11,11;p5,1;");
        int[][] least = {{1, 0, 0}, {0, 10, 6}, {11, 9, 5}, {2, 0, 1}, {8, 6, 2}};
        int[][] greatest = {{1, 11, 7}, {0, 11, 11}, {11, 10, 10}, {2, 1, 8}, {8, 7, 7}};
        int[] spans = {12, 7, 8, 11, 1};
        for (int one = 0; one < 5; one++) {
            for (int piece = 0; piece < 3; piece++) {
                boolean isReached = greatest[one][piece] - least[one][piece] < spans[one];
                Check.due("reaches " + one + " " + piece, x.plays(one, piece, 0), isReached ? 1 : 0);
                Check.due("least " + one + " " + piece, x.plays(one, piece, 1), least[one][piece]);
                Check.due("greatest " + one + " " + piece, x.plays(one, piece, 2), greatest[one][piece]);
            }
        }
        for (int what = 0; what < 3; what++) {
            int asked = what;
            Twins.tells(TOLD, "plays, " + what, y -> y.plays(4, 2, asked));
        }
        for (int what : new int[] {MIN, -1, 3, MAX}) {
            Twins.refused(TOLD, "plays, what " + what, BAD, y -> y.plays(0, 0, what));
        }
        for (int one : new int[] {MIN, -1, 5, MAX}) {
            Twins.refused(TOLD, "plays of " + one, BAD, y -> y.plays(one, 0, 0));
        }
        for (int piece : new int[] {MIN, -1, 3, MAX}) {
            Twins.refused(TOLD, "plays of piece " + piece, BAD, y -> y.plays(0, piece, 0));
        }
        Twins.refused(BARE, "plays without a HALL", BAD, y -> y.plays(0, 0, 0));
        Check.due("no pieces", Check.hall("k2,0,0;p0,1;").plays(0, 0, 0), BAD);
        Check.due("no pupils", Check.hall("k2,0,0;ta;").plays(0, 0, 0), BAD);
    }

    private static void heard() {
        Document.says("Promise 17", "The string heard of the k-th one of a PIECE, as a pupil plays it now. BAD.");
        KeyDrift x = Check.hall("k12,1,0;tl;tabcdefgh;p0,1;p11,1;");
        Check.due("the only one", x.heard(0, 0, 0), 11);
        Check.due("the first of eight", x.heard(1, 1, 0), 1);
        Check.due("the last of eight", x.heard(1, 1, 7), 8);
        x.nights(1);
        Check.due("a night on, above", x.heard(0, 0, 0), 0);
        Check.due("a night on", x.heard(1, 1, 7), 9);
        Check.due("behind the only one", x.heard(0, 0, 1), BAD);
        Check.due("behind the last of eight", x.heard(0, 1, 8), BAD);
        Twins.tells(TOLD, "heard", y -> y.heard(4, 2, 3));
        for (int k : new int[] {MIN, -1, 3, 8, MAX}) {
            Twins.refused(TOLD, "heard, k " + k, BAD, y -> y.heard(0, 0, k));
        }
        for (int one : new int[] {MIN, -1, 5, MAX}) {
            Twins.refused(TOLD, "heard of " + one, BAD, y -> y.heard(one, 0, 0));
        }
        for (int piece : new int[] {MIN, -1, 3, MAX}) {
            Twins.refused(TOLD, "heard of piece " + piece, BAD, y -> y.heard(0, piece, 0));
        }
        Twins.refused(BARE, "heard without a HALL", BAD, y -> y.heard(0, 0, 0));
    }

    private static void strike() {
        Document.says("Promise 18", "BAD; STATE: no HALL (ahead of BAD).");
        for (int key : new int[] {MIN, -1, 7, 11, 12, MAX}) {
            Twins.refused(TOLD, "strike of " + key, BAD, x -> x.strike(key));
            Twins.refused(BARE, "strike of " + key + " without a HALL", STATE, x -> x.strike(key));
        }
        Twins.refused(BARE, "strike without a HALL", STATE, x -> x.strike(0));
        Twins.tells(TOLD, "strike of the first", x -> x.strike(0));
        Twins.tells(TOLD, "strike of the last", x -> x.strike(6));
    }

    private static void image() {
        Document.says("Promise 32", "An IMAGE (0, 1) is kept of the HALL: 1.");
        KeyDrift x = Twins.told();
        int shift = x.count(3);
        for (int k = 0; k < 2; k++) {
            Check.due("image", x.image(k), 1);
            Check.due("the acts stay", x.count(7), 24);
            Check.due("the shift stays", x.count(3), shift);
        }
        Document.says("Promise 32", "BAD; STATE: no HALL.");
        for (int k : new int[] {MIN, -1, 2, MAX}) {
            Twins.refused(TOLD, "image " + k, BAD, y -> y.image(k));
            Twins.refused(BARE, "image " + k + " without a HALL", BAD, y -> y.image(k));
        }
        for (int k = 0; k < 2; k++) {
            int asked = k;
            Twins.refused(BARE, "image without a HALL", STATE, y -> y.image(asked));
        }
    }

    private static void restore() {
        Document.says("Promise 33", "The HALL is as an IMAGE kept it (no ACT can be undone then): 1.");
        KeyDrift x = Twins.told();
        Check.due("restore", x.restore(0), 1);
        int[] wanted = {4, 7, 2, 2, 3, 5, 3, 0, 7};
        for (int what = 0; what < wanted.length; what++) {
            Check.due("count " + what, x.count(what), wanted[what]);
        }
        Check.due("undo", x.undo(), STATE);
        Check.due("a lesson that was there", x.pupil(1, 0), 3);
        Check.due("a lesson that was not", x.pupil(4, 0), 2);
        Check.due("an act anew", x.nights(2), 6);
        undoAll(x, 2);
        Document.says("Promise 33", "BAD; STATE: none was kept.");
        for (int k : new int[] {MIN, -1, 2, MAX}) {
            Twins.refused(TOLD, "restore " + k, BAD, y -> y.restore(k));
            Twins.refused(BARE, "restore " + k + ", none kept", BAD, y -> y.restore(k));
        }
        Twins.refused(TOLD, "restore of none", STATE, y -> y.restore(1));
        Twins.refused(BARE, "restore of none, 0", STATE, y -> y.restore(0));
        Twins.refused(BARE, "restore of none, 1", STATE, y -> y.restore(1));
    }

    /** Each IMAGE is one by itself: what is done then, or kept in the other, does not change it. */
    private static void imageOfOwn() {
        Document.says("Promise 33", "The HALL is as an IMAGE kept it");
        KeyDrift x = Check.hall("k7,1,1;tab;p2,3;");
        x.image(0);
        x.nights(2);
        x.image(1);
        x.thunder(2);
        x.learn(0);
        Check.tell(x, "k3,2,1;tc;ta;m1,2;v0,1;");
        x.image(0);
        x.restore(1);
        int[] first = {0, 7, 1, 3, 1, 1, 2, 0, 0};
        for (int what = 0; what < first.length; what++) {
            Check.due("image 1, count " + what, x.count(what), first[what]);
        }
        Check.due("image 1, learnt", x.pupil(0, 0), 2);
        Check.due("image 1, kind", x.kind(0), 1);
        x.tune();
        x.learn(0);
        x.restore(0);
        int[] second = {0, 3, 2, 1, 2, 2, 0, 0, 0};
        for (int what = 0; what < second.length; what++) {
            Check.due("image 0, count " + what, x.count(what), second[what]);
        }
        Check.due("image 0, kind", x.kind(0), 5);
        Check.due("image 0, piece", x.piece(0, 0), 2);
        x.restore(1);
        Check.due("image 1 again", x.count(3), 3);
        Check.due("image 1 again, learnt", x.pupil(0, 0), 2);
        Check.due("a fault leaves images", Check.tell(x, "k"), -1000101);
        Check.due("restore", x.restore(0), 1);
        Check.due("keys", x.count(1), 3);
    }
}
