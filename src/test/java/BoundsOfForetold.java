import java.math.BigInteger;
import java.util.ArrayList;
import java.util.List;
import java.util.function.Supplier;

/** Boundaries of what is foretold: 'Terms' 3, promises 19 to 31. */
final class BoundsOfForetold {
    private static final int BAD = KeyDrift.BAD, STATE = KeyDrift.STATE, NONE = KeyDrift.NONE;
    private static final int MIN = Integer.MIN_VALUE, MAX = Integer.MAX_VALUE;
    private static final Supplier<KeyDrift> TOLD = Twins::told, BARE = Twins::bare;

    private BoundsOfForetold() {
    }

    static void all() {
        nothingChanges();
        soon();
        soonRefused();
        together();
        togetherRefused();
        itself();
        nightsOf();
        nightsOfRefused();
        struckTold();
        struckLies();
        struckNoKeys();
        struckRefused();
        lessonsNights();
        lessonsFewest();
        lessonsLeast();
        lessonsRefused();
        programmeNights();
        programmeWays();
        programmeFirst();
        programmeAnew();
        programmeRefused();
        chords();
        chordsRefused();
        whoKinds();
        whoRefused();
        tuningsBounds();
        tuningsFewest();
        tuningsRefused();
        other();
        otherRefused();
        thunderBounds();
        thunderFractions();
        thunderRefused();
        drawnBounds();
        drawnBySeed();
        drawnRefused();
    }

    private static int[] edges(int least, int greatest) {
        return new int[] {MIN, least - 1, greatest + 1, MAX};
    }

    private static void nothingChanges() {
        Document.says("Terms 3", "FORETOLD (nothing changes).");
        Twins.tells(TOLD, "soon", x -> x.soon(4));
        Twins.tells(TOLD, "together", x -> x.together(0, 2));
        Twins.tells(TOLD, "itself", KeyDrift::itself);
        Twins.tells(TOLD, "nightsOf", x -> x.nightsOf(4, 24));
        Twins.tells(TOLD, "lessons, how many", x -> x.lessons(127, 0));
        Twins.tells(TOLD, "lessons, which", x -> x.lessons(4, 1));
        Twins.tells(TOLD, "programme, how many", x -> x.programme(6, -1));
        Twins.tells(TOLD, "programme, which", x -> x.programme(6, 2));
        Twins.tells(TOLD, "chords", x -> x.chords(1));
        Twins.tells(TOLD, "tunings", x -> x.tunings(60, 0));
        Twins.tells(TOLD, "other", x -> x.other(6, 6));
        Twins.tells(TOLD, "thunderOdds", x -> x.thunderOdds(4, 5, 6, 1));
        Twins.tells(TOLD, "drawn", x -> x.drawn(60, 999999, 1));
        Twins.tellsWithStatus(TOLD, "struck", x -> x.struck(0, 0, 12, 1));
        Twins.tellsWithStatus(TOLD, "who", x -> x.who(0, 0, 4, 0));
    }

    /** How many NIGHTS on the SHIFT is as wanted, by going there. */
    private static int nightsUntil(int keys, int drift, int shift, int wanted) {
        int there = shift;
        for (int night = 0; night <= 60; night++) {
            if (there == wanted) {
                return night;
            }
            there = (there + drift) % keys;
        }
        return NONE;
    }

    private static void soon() {
        Document.says("Terms 3", "SOON: behind how many of the next NIGHTS (0: now; 60 at most) a pupil is RIGHT "
            + "first;");
        Document.says("Promise 19", "SOON; NONE.");
        for (int keys = 2; keys <= 12; keys++) {
            for (int drift = 0; drift < keys; drift++) {
                for (int learnt = 0; learnt < keys; learnt++) {
                    KeyDrift x = Check.hall("k" + keys + "," + drift + "," + (keys - 1) + ";p" + learnt + ",1;");
                    Check.due("soon", x.soon(0), nightsUntil(keys, drift, keys - 1, learnt));
                }
            }
        }
        KeyDrift far = Check.hall("k12,5,1;p1,1;p8,1;p2,1;");
        Check.due("now", far.soon(0), 0);
        Check.due("eleven nights, the most there are", far.soon(1), 11);
        Check.due("five", far.soon(2), 5);
        far.nights(1);
        Check.due("now is gone: all the way round", far.soon(0), 11);
        KeyDrift never = Check.hall("k12,2,1;p1,1;p2,1;");
        Check.due("never", never.soon(1), NONE);
        Check.due("a piano that stands", Check.hall("k12,0,1;p2,1;").soon(0), NONE);
    }

    private static void soonRefused() {
        Document.says("Promise 19", "NONE. BAD.");
        for (int one : edges(0, 4)) {
            Twins.refused(TOLD, "soon of " + one, BAD, x -> x.soon(one));
        }
        Twins.refused(BARE, "soon without a HALL", BAD, x -> x.soon(0));
    }

    private static void together() {
        Document.says("Terms 3", "two pupils are at once;");
        Document.says("Promise 20", "SOON of two; NONE.");
        KeyDrift x = Check.hall("k12,7,1;p8,1;s10,1;c4,1;m5,1;p1,1;");
        for (int one = 0; one < 4; one++) {
            for (int other = 0; other < 4; other++) {
                if (one != other) {
                    Check.due("behind one night", x.together(one, other), 1);
                }
            }
            Check.due("never", x.together(one, 4), NONE);
            Check.due("never", x.together(4, one), NONE);
        }
        x.nights(1);
        Check.due("now", x.together(0, 3), 0);
        x.nights(1);
        Check.due("eleven nights", x.together(0, 3), 11);
        KeyDrift alike = Check.hall("k12,2,1;p2,1;p2,1;p3,1;p3,1;");
        Check.due("alike, and never right", alike.together(0, 1), NONE);
        Check.due("alike, and right behind one", alike.together(2, 3), 1);
    }

    private static void togetherRefused() {
        Document.says("Promise 20", "BAD: alike, too.");
        for (int one : edges(0, 4)) {
            Twins.refused(TOLD, "together of " + one, BAD, x -> x.together(one, 0));
            Twins.refused(TOLD, "together with " + one, BAD, x -> x.together(0, one));
            Twins.refused(TOLD, "together of " + one + " with itself", BAD, x -> x.together(one, one));
        }
        for (int one = 0; one < 5; one++) {
            int asked = one;
            Twins.refused(TOLD, "together, alike " + one, BAD, x -> x.together(asked, asked));
        }
        Twins.refused(BARE, "together without a HALL", BAD, x -> x.together(0, 1));
    }

    private static void itself() {
        Document.says("Terms 3", "the piano is ITSELF (SHIFT 0); NONE.");
        Document.says("Promise 21", "SOON of the piano; NONE. STATE: no HALL.");
        for (int keys = 2; keys <= 12; keys++) {
            for (int drift = 0; drift < keys; drift++) {
                for (int shift = 0; shift < keys; shift++) {
                    KeyDrift x = Check.hall("k" + keys + "," + drift + "," + shift + ";");
                    Check.due("itself", x.itself(), nightsUntil(keys, drift, shift, 0));
                }
            }
        }
        Check.due("now", Check.hall("k12,0,0;").itself(), 0);
        Check.due("eleven nights", Check.hall("k12,1,1;").itself(), 11);
        Check.due("never", Check.hall("k12,0,1;").itself(), NONE);
        Twins.refused(BARE, "itself", STATE, KeyDrift::itself);
    }

    private static void nightsOf() {
        Document.says("Terms 3", "NIGHTS of a pupil: those of the next n (1 to 24; 0: now, bit 0) on which it is "
            + "RIGHT (bits).");
        Document.says("Promise 22", "NIGHTS of a pupil.");
        KeyDrift still = Check.hall("k2,0,1;p1,1;p0,1;");
        KeyDrift all = Check.hall("k12,11,0;p0,1;p11,1;p1,1;");
        for (int n = 1; n <= 24; n++) {
            Check.due("each night", still.nightsOf(0, n), (1 << n) - 1);
            Check.due("no night", still.nightsOf(1, n), 0);
            Check.due("now, and behind twelve", all.nightsOf(0, n), n > 12 ? 1 << 12 | 1 : 1);
            Check.due("behind one, and thirteen", all.nightsOf(1, n), n > 13 ? 1 << 13 | 2 : n > 1 ? 2 : 0);
            Check.due("behind 11, and the last", all.nightsOf(2, n), n > 23 ? 1 << 23 | 1 << 11 : n > 11 ? 1 << 11 : 0);
        }
    }

    private static void nightsOfRefused() {
        Document.says("Promise 22", "BAD.");
        for (int one : edges(0, 4)) {
            Twins.refused(TOLD, "nightsOf " + one, BAD, x -> x.nightsOf(one, 1));
        }
        for (int n : edges(1, 24)) {
            Twins.refused(TOLD, "nightsOf, n " + n, BAD, x -> x.nightsOf(0, n));
        }
        Twins.refused(BARE, "nightsOf without a HALL", BAD, x -> x.nightsOf(0, 1));
    }

    private static void struckTold() {
        Document.says("Terms 3", "STRUCK: a row tells n (1 to 12) keys and strings by turns: SHIFTS (bits) by "
            + "which each key told gives the string told;");
        for (int keys = 2; keys <= 12; keys++) {
            KeyDrift x = Check.hall("k" + keys + ",0,0;");
            x.row(0, 0, 2);
            for (int key = 0; key < keys; key += keys - 1) {
                for (int string = 0; string < keys; string++) {
                    x.set(0, 0, key);
                    x.set(0, 1, string);
                    Check.due("one pair", x.struck(0, 0, 1, 0), 1 << Math.floorMod(string - key, keys));
                }
            }
        }
        KeyDrift x = Check.hall("k12,3,5;");
        x.row(0, 2, 40);
        for (int key = 0; key < 12; key++) {
            x.set(0, 16 + 2 * key, key);
            x.set(0, 17 + 2 * key, (key + 11) % 12);
        }
        for (int n = 1; n <= 12; n++) {
            Check.due("n pairs", x.struck(0, 16, n, 0), 1 << 11);
            Check.due("up to the end", x.struck(0, 40 - 2 * n, n, 0), 1 << 11);
        }
        Check.due("the last pair beyond the end", x.struck(0, 17, 12, 0), Check.PLACE);
    }

    private static void struckLies() {
        Document.says("Terms 3", "if one of them may be wrong (lies = 1), too.");
        KeyDrift x = Check.hall("k5,0,0;");
        // By SHIFT 2, but for the last two.
        Check.fill(x, 0, 0, 0, 2, 1, 3, 4, 1, 2, 1, 3, 4);
        int[] all = {4, 4, 4, 0, 0};
        int[] butOne = {31, 4, 4, 4, 0};
        for (int n = 1; n <= 5; n++) {
            Check.due("none is wrong of " + n, x.struck(0, 0, n, 0), all[n - 1]);
            Check.due("one may be wrong of " + n, x.struck(0, 0, n, 1), butOne[n - 1]);
        }
        Check.due("either of two may be wrong", x.struck(0, 4, 2, 1), 1 << 2 | 1 << 4);
        Check.due("the first may be wrong", x.struck(0, 6, 2, 1), 1 << 4 | 1 << 1);
    }

    private static void struckNoKeys() {
        Document.says("Terms 3", "by which each key told gives the string told;");
        KeyDrift x = Check.hall("k5,0,0;");
        int[][] none = {{-1, 0}, {5, 0}, {0, -1}, {0, 5}, {MIN, 0}, {MAX, 0}, {0, MIN}, {0, MAX}, {5, 5}, {-5, -5}};
        for (int[] pair : none) {
            Check.fill(x, 0, 2, pair[0], pair[1], 1, 4);
            Check.due("there is no such key, no such string", x.struck(0, 0, 1, 0), 0);
            Check.due("it may be wrong", x.struck(0, 0, 1, 1), 31);
            Check.due("with one that is right", x.struck(0, 0, 2, 0), 0);
            Check.due("it is the one that may be wrong", x.struck(0, 0, 2, 1), 1 << 3);
        }
    }

    private static void struckRefused() {
        Document.says("Promise 23", "STRUCK, 2 n ITEMS of a ROW from i on. BAD: ROW, n, lies; STATE: no HALL "
            + "(ahead of BAD); NULL; PLACE.");
        for (int row : edges(0, 7)) {
            Twins.refused(TOLD, "struck of row " + row, BAD, x -> x.struck(row, 0, 1, 0));
            Twins.refused(TOLD, "struck of row " + row + ", PLACE too", BAD, x -> x.struck(row, -1, 1, 0));
            Twins.refused(BARE, "struck of row " + row + " without a HALL", STATE, x -> x.struck(row, 0, 1, 0));
        }
        for (int n : edges(1, 12)) {
            Twins.refused(TOLD, "struck, n " + n, BAD, x -> x.struck(0, 0, n, 0));
            Twins.refused(TOLD, "struck, n " + n + ", missing too", BAD, x -> x.struck(3, 0, n, 0));
            Twins.refused(BARE, "struck, n " + n + " without a HALL", STATE, x -> x.struck(0, 0, n, 0));
        }
        for (int lies : edges(0, 1)) {
            Twins.refused(TOLD, "struck, lies " + lies, BAD, x -> x.struck(0, 0, 1, lies));
            Twins.refused(TOLD, "struck, lies " + lies + ", missing too", BAD, x -> x.struck(3, 0, 1, lies));
            Twins.refused(BARE, "struck, lies " + lies + " without a HALL", STATE, x -> x.struck(0, 0, 1, lies));
        }
        Twins.refused(BARE, "struck without a HALL", STATE, x -> x.struck(0, 0, 1, 0));
        Twins.refused(BARE, "struck without a HALL, missing too", STATE, x -> x.struck(3, 0, 1, 0));
        Twins.found(TOLD, "struck, missing", 1, x -> x.struck(3, 0, 1, 0));
        Twins.found(TOLD, "struck, missing, PLACE too", 1, x -> x.struck(3, -1, 1, 0));
        for (int i : new int[] {MIN, -1, 39, 40, 41, MAX - 1, MAX}) {
            Twins.found(TOLD, "struck from " + i, 2, x -> x.struck(0, i, 1, 0));
        }
        Twins.found(TOLD, "struck, 24 items from 17", 2, x -> x.struck(0, 17, 12, 0));
        Twins.found(TOLD, "struck, 8 items of six", 2, x -> x.struck(1, 0, 4, 0));
        Twins.found(TOLD, "struck, two items of none", 2, x -> x.struck(2, 0, 1, 0));
        Twins.tellsWithStatus(TOLD, "struck, the last pair", x -> x.struck(0, 38, 1, 0));
        Twins.tellsWithStatus(TOLD, "struck, 24 items from 16", x -> x.struck(0, 16, 12, 1));
        Twins.tellsWithStatus(TOLD, "struck, all six", x -> x.struck(1, 0, 3, 1));
    }

    private static void taught(KeyDrift x, int nights, int howMany, int which) {
        Check.due("how many for " + nights, x.lessons(nights, 0), howMany);
        Check.due("which for " + nights, x.lessons(nights, 1), which);
    }

    private static void lessonsNights() {
        Document.says("Terms 3", "LESSONS for told NIGHTS (bits 0 to 23: from now on):");
        Document.says("Promise 24", "LESSONS (bits 0 to 16777215): how many (what = 0), which (1); NONE.");
        KeyDrift still = Check.hall("k12,0,5;p5,1;");
        taught(still, 0, 0, 0);
        taught(still, 16777215, 0, 0);
        KeyDrift wrong = Check.hall("k12,0,5;p4,1;");
        taught(wrong, 0, 0, 0);
        for (int night = 0; night <= 23; night++) {
            taught(wrong, 1 << night, 1, 1);
        }
        taught(wrong, 16777215, 1, 1);
        KeyDrift round = Check.hall("k12,1,0;p11,1;");
        taught(round, 1 << 23, 0, 0);
        taught(round, 1 << 11 | 1 << 23, 0, 0);
        taught(round, 1 << 12, 1, 1);
        taught(round, 1 << 22, NONE, NONE);
        taught(round, 1 << 12 | 1 << 23, NONE, NONE);
    }

    private static void lessonsFewest() {
        Document.says("Terms 3", "the fewest pupils to have a lesson now, so that on each of these somebody is "
            + "RIGHT: how many;");
        // All are right behind one NIGHT; behind a lesson behind 0, 2, 10, 6, 7.
        KeyDrift x = Check.hall("k12,1,3;p4,1;v2,1;s6,1;c8,1;m9,1;");
        taught(x, 0, 0, 0);
        taught(x, 1 << 1, 0, 0);
        taught(x, 1 << 0, 1, 1);
        taught(x, 1 << 2, 1, 2);
        taught(x, 1 << 10, 1, 4);
        taught(x, 1 << 6, 1, 8);
        taught(x, 1 << 7, 1, 16);
        taught(x, 1 << 0 | 1 << 2 | 1 << 6 | 1 << 7 | 1 << 10, 5, 31);
        taught(x, 1 << 0 | 1 << 1 | 1 << 2 | 1 << 6 | 1 << 7, 4, 27);
        taught(x, 1 << 0 | 1 << 1 | 1 << 2 | 1 << 6 | 1 << 7 | 1 << 10, NONE, NONE);
        taught(x, 1 << 3, NONE, NONE);
        KeyDrift empty = Check.hall("k12,1,3;ta;");
        taught(empty, 0, 0, 0);
        taught(empty, 1, NONE, NONE);
        taught(empty, 16777215, NONE, NONE);
    }

    private static void lessonsLeast() {
        Document.says("Terms 3", "which (bits), of several the least; NONE.");
        // 0 and 1 are right now behind a lesson, 2 and 3 behind two NIGHTS; 0 and 2 behind one as they are.
        KeyDrift x = Check.hall("k7,1,2;p3,1;p5,1;v1,1;v3,1;");
        taught(x, 0b111, 2, 0b0110);
        taught(x, 0b101, 2, 0b0101);
        taught(x, 0b001, 1, 0b0001);
        taught(x, 0b100, 1, 0b0100);
        KeyDrift alike = Check.hall("k7,1,2;p5,1;p5,1;p5,1;p5,1;p5,1;");
        taught(alike, 0b0001, 1, 1);
        taught(alike, 0b1001, 1, 1);
        taught(alike, 0b1000, 0, 0);
    }

    private static void lessonsRefused() {
        Document.says("Promise 24", "BAD; STATE: no HALL (ahead of BAD).");
        for (int nights : edges(0, 16777215)) {
            Twins.refused(TOLD, "lessons for " + nights, BAD, x -> x.lessons(nights, 0));
            Twins.refused(BARE, "lessons for " + nights + " without a HALL", STATE, x -> x.lessons(nights, 0));
        }
        for (int what : edges(0, 1)) {
            Twins.refused(TOLD, "lessons, what " + what, BAD, x -> x.lessons(0, what));
            Twins.refused(BARE, "lessons, what " + what + " without a HALL", STATE, x -> x.lessons(0, what));
        }
        Twins.refused(BARE, "lessons without a HALL", STATE, x -> x.lessons(0, 0));
    }

    private static void programmeNights() {
        Document.says("Terms 3", "PROGRAMME for n NIGHTS (1 to 6; 0, 1, ..: now, behind one, ..):");
        for (int learnt = 0; learnt <= 11; learnt++) {
            KeyDrift x = Check.hall("k12,1,0;ta;p" + learnt + ",12;");
            for (int n = 1; n <= 6; n++) {
                Check.due("night " + learnt + " of " + n, x.programme(n, -1), learnt < n ? 1 : 0);
                Check.due("which night", x.programme(n, 0), learnt < n ? learnt : NONE);
            }
        }
        KeyDrift still = Check.hall("k12,0,0;ta;p0,12;p0,12;");
        for (int n = 1; n <= 6; n++) {
            Check.due("any night, by either", still.programme(n, -1), n);
            Check.due("the first", still.programme(n, 0), 0);
        }
    }

    private static void programmeWays() {
        Document.says("Terms 3", "ways to give each PIECE a NIGHT of its own of these on which some pupil is "
            + "RIGHT who REACHES it: how many;");
        String text = "k12,0,0;";
        int ways = 1;
        for (int pieces = 0; pieces <= 4; pieces++) {
            KeyDrift x = Check.hall(text + "p0,1;");
            Check.due("six nights for " + pieces, x.programme(6, -1), ways);
            Check.due("as few nights as pieces", x.programme(Math.max(1, pieces), -1), factorial(pieces));
            if (pieces > 1) {
                Check.due("a night too few", x.programme(pieces - 1, -1), 0);
                Check.due("a night too few, which", x.programme(pieces - 1, 0), NONE);
            }
            for (int k = 0; k < 4; k++) {
                Check.due("night of piece " + k + " of " + pieces, x.programme(6, k), k < pieces ? k : NONE);
            }
            KeyDrift nobody = Check.hall(text);
            Check.due("without pupils", nobody.programme(6, -1), pieces == 0 ? 1 : 0);
            Check.due("without pupils, which", nobody.programme(6, 0), NONE);
            text = text + "ta;";
            ways *= 6 - pieces;
        }
        // Right now: one who does not reach; one who reaches is right behind two.
        KeyDrift reach = Check.hall("k12,1,0;tac;p0,2;p2,12;");
        Check.due("who is right does not reach", reach.programme(2, -1), 0);
        Check.due("who reaches is right", reach.programme(3, -1), 1);
        Check.due("behind two", reach.programme(3, 0), 2);
        KeyDrift span = Check.hall("k12,1,0;tac;p0,3;p2,12;");
        Check.due("both", span.programme(3, -1), 2);
    }

    private static int factorial(int n) {
        return n <= 1 ? 1 : n * factorial(n - 1);
    }

    private static void programmeFirst() {
        Document.says("Terms 3", "in the first one (by NIGHTS of PIECE 0, 1, ..) the k-th PIECE's NIGHT; NONE.");
        Document.says("Promise 25", "PROGRAMME: how many (k = -1), the k-th NIGHT (0 on; NONE).");
        // PIECES 0 and 3 can have NIGHTS 0 to 3; 1 and 2 only 0 and 1: hands of SPAN 1 do not reach them.
        KeyDrift x = Check.hall("k12,1,0;ta;tab;tac;ta;p0,3;p1,12;p2,1;p3,1;");
        Check.due("two ways by two", x.programme(4, -1), 4);
        int[] nights = {2, 0, 1, 3};
        for (int k = 0; k < 4; k++) {
            Check.due("piece " + k, x.programme(4, k), nights[k]);
        }
        Check.due("three nights", x.programme(3, -1), 0);
        for (int k = 0; k < 4; k++) {
            Check.due("three nights, piece " + k, x.programme(3, k), NONE);
        }
        KeyDrift swapped = Check.hall("k12,1,0;ta;tab;p0,12;p2,1;");
        Check.due("the second is reached now alone", swapped.programme(3, -1), 1);
        Check.due("so the first one is behind two", swapped.programme(3, 0), 2);
        Check.due("and the second now", swapped.programme(3, 1), 0);
    }

    /** What was foretold before, of another HALL or another SHIFT, is not what is foretold now. */
    private static void programmeAnew() {
        Document.says("Promise 25", "PROGRAMME: how many (k = -1), the k-th NIGHT (0 on; NONE).");
        for (int pieces = 0; pieces < 4; pieces++) {
            KeyDrift x = Check.hall("k12,0,0;ta;ta;ta;ta;p0,1;");
            Check.due("four pieces", x.programme(6, 3), 3);
            Check.due("fewer", Check.tell(x, "k12,0,0;" + "ta;".repeat(pieces) + "p0,1;"), 1);
            for (int k = 0; k < 4; k++) {
                Check.due("piece " + k + " of " + pieces, x.programme(6, k), k < pieces ? k : NONE);
            }
        }
        KeyDrift x = Check.hall("k12,0,0;ta;p0,1;");
        Check.due("right each night", x.programme(6, -1), 6);
        x.thunder(1);
        Check.due("right no night", x.programme(6, -1), 0);
        Check.due("no night", x.programme(6, 0), NONE);
        x.undo();
        Check.due("right each night", x.programme(1, 0), 0);
    }

    private static void programmeRefused() {
        Document.says("Promise 25", "BAD: k not -1 to 3, too; STATE: no HALL (ahead of BAD).");
        for (int n : edges(1, 6)) {
            Twins.refused(TOLD, "programme for " + n, BAD, x -> x.programme(n, -1));
            Twins.refused(BARE, "programme for " + n + " without a HALL", STATE, x -> x.programme(n, -1));
        }
        for (int k : edges(-1, 3)) {
            Twins.refused(TOLD, "programme, k " + k, BAD, x -> x.programme(1, k));
            Twins.refused(BARE, "programme, k " + k + " without a HALL", STATE, x -> x.programme(1, k));
        }
        Twins.refused(BARE, "programme without a HALL", STATE, x -> x.programme(1, -1));
        Twins.tells(TOLD, "programme, k 3 of three", x -> x.programme(1, 3));
    }

    private static List<Integer> chordsOf(int keys, int drift) {
        List<Integer> chords = new ArrayList<>();
        for (int set = 0; set < 1 << keys; set++) {
            int moved = 0;
            for (int string = 0; string < keys; string++) {
                moved |= (set >> string & 1) << (string + drift) % keys;
            }
            if (moved == set) {
                chords.add(set);
            }
        }
        return chords;
    }

    private static void chords() {
        Document.says("Terms 3", "CHORDS: sets of strings that are the same when each is DRIFT more: how many; "
            + "the k-th (as bits, the least first); NONE.");
        Document.says("Promise 26", "CHORDS: how many (k = -1), the k-th (0 on; NONE).");
        for (int keys = 2; keys <= 12; keys++) {
            for (int drift = 0; drift < keys; drift++) {
                List<Integer> due = chordsOf(keys, drift);
                KeyDrift x = Check.hall("k" + keys + "," + drift + ",1;");
                Check.due("how many", x.chords(-1), due.size());
                Check.due("the first, empty", x.chords(0), 0);
                Check.due("the last, all", x.chords(due.size() - 1), (1 << keys) - 1);
                Check.due("behind the last", x.chords(due.size()), NONE);
                for (int k = 0; k < due.size(); k += 1 + due.size() / 64) {
                    Check.due("chord " + k, x.chords(k), due.get(k));
                }
            }
        }
        KeyDrift most = Check.hall("k12,0,0;");
        Check.due("4096 at most", most.chords(-1), 4096);
        Check.due("the last of them", most.chords(4095), 4095);
        Check.due("behind it", most.chords(4096), NONE);
        Check.due("the greatest", most.chords(MAX), NONE);
    }

    private static void chordsRefused() {
        Document.says("Promise 26", "BAD: k below -1; STATE: no HALL (ahead of BAD).");
        for (int k : new int[] {MIN, -2}) {
            Twins.refused(TOLD, "chords, k " + k, BAD, x -> x.chords(k));
            Twins.refused(BARE, "chords, k " + k + " without a HALL", STATE, x -> x.chords(k));
        }
        Twins.refused(BARE, "chords without a HALL", STATE, x -> x.chords(-1));
        Twins.tells(TOLD, "chords, how many", x -> x.chords(-1));
        Twins.tells(TOLD, "chords, the last", x -> x.chords(1));
        Twins.tells(TOLD, "chords, none", x -> x.chords(2));
        Twins.tells(TOLD, "chords, the greatest", x -> x.chords(MAX));
    }

    private static void whoKinds() {
        Document.says("Terms 3", "WHO: a row tells strings heard of a piece, as many as it has: KINDS (bits 1 to "
            + "5) by which a pupil would give them now.");
        for (int keys = 2; keys <= 12; keys++) {
            for (int learnt = 0; learnt < keys; learnt++) {
                KeyDrift x = Check.hall("k" + keys + ",1,1;tab;m" + learnt + ",1;");
                x.row(0, 2, 2);
                int[] biases = {0, learnt, learnt + 2, learnt - 2, -learnt, 1 - learnt};
                for (int first = 0; first < keys; first++) {
                    int kinds = 0;
                    for (int kind = 1; kind <= 5; kind++) {
                        kinds |= Math.floorMod(1 - biases[kind], keys) == first ? 1 << kind : 0;
                    }
                    x.set(0, 0, first);
                    x.set(0, 1, (first + 1) % keys);
                    Check.due("who", x.who(0, 0, 0, 0), kinds);
                }
            }
        }
        KeyDrift x = Check.hall("k5,0,0;ta;tabcdeabc;p0,1;");
        Check.fill(x, 0, 0, 0, 1, 2, 3, 4, 0, 1, 2);
        Check.due("eight strings", x.who(0, 1, 0, 0), 1 << 1 | 1 << 2 | 1 << 4);
        x.set(0, 7, 3);
        Check.due("the eighth is wrong", x.who(0, 1, 0, 0), 0);
        Check.due("a piece of one: the first", x.who(0, 0, 0, 0), 1 << 1 | 1 << 2 | 1 << 4);
        Check.due("a piece of one: the last, 3", x.who(0, 0, 0, 7), 0);
        for (int none : new int[] {-1, 5, -5, MIN, MAX}) {
            Check.fill(x, 1, 2, none);
            Check.due("no such string", x.who(0, 0, 1, 0), 0);
        }
    }

    private static void whoRefused() {
        Document.says("Promise 27", "WHO, as many ITEMS as the PIECE has of a ROW from i on. BAD: PUPIL, PIECE, "
            + "ROW; NULL; PLACE.");
        for (int one : edges(0, 4)) {
            Twins.refused(TOLD, "who of " + one, BAD, x -> x.who(one, 0, 4, 0));
            Twins.refused(TOLD, "who of " + one + ", missing too", BAD, x -> x.who(one, 0, 3, 0));
        }
        for (int piece : edges(0, 2)) {
            Twins.refused(TOLD, "who of piece " + piece, BAD, x -> x.who(0, piece, 4, 0));
            Twins.refused(TOLD, "who of piece " + piece + ", PLACE too", BAD, x -> x.who(0, piece, 4, -1));
        }
        for (int row : edges(0, 7)) {
            Twins.refused(TOLD, "who of row " + row, BAD, x -> x.who(0, 0, row, 0));
        }
        Twins.refused(BARE, "who without a HALL", BAD, x -> x.who(0, 0, 4, 0));
        Twins.refused(BARE, "who without a HALL, missing too", BAD, x -> x.who(0, 0, 3, 0));
        Twins.found(TOLD, "who, missing", 1, x -> x.who(0, 0, 3, 0));
        Twins.found(TOLD, "who, missing, PLACE too", 1, x -> x.who(0, 0, 3, -1));
        for (int i : new int[] {MIN, -1, 1, 3, 4, MAX - 2, MAX}) {
            Twins.found(TOLD, "who, three of three from " + i, 2, x -> x.who(0, 0, 4, i));
        }
        Twins.found(TOLD, "who, four of three", 2, x -> x.who(0, 2, 4, 0));
        Twins.found(TOLD, "who of none", 2, x -> x.who(0, 0, 2, 0));
        Twins.found(TOLD, "who, four of 40 from 37", 2, x -> x.who(0, 2, 0, 37));
        Twins.tellsWithStatus(TOLD, "who, three of three", x -> x.who(0, 0, 4, 0));
        Twins.tellsWithStatus(TOLD, "who, four of 40 from 36", x -> x.who(0, 2, 0, 36));
    }

    /** The fewest, by trying to tune and not to tune behind each NIGHT. */
    private static int fewest(int keys, int drift, int shift, int n, int t) {
        if (n == 0) {
            return 0;
        }
        int next = (shift + drift) % keys;
        int tuned = 1 + fewest(keys, drift, 0, n - 1, t);
        return next > t ? tuned : Math.min(tuned, fewest(keys, drift, next, n - 1, t));
    }

    private static void tuningsBounds() {
        Document.says("Terms 3", "(1 to 60; each behind a NIGHT, one at most), so that SHIFT is no more than t "
            + "(0 to 11) behind each of these and what is tuned behind it.");
        KeyDrift x = Check.hall("k12,11,0;");
        Check.due("11 is no more than 11", x.tunings(1, 11), 0);
        Check.due("11 is more than 10", x.tunings(1, 10), 1);
        Check.due("60 nights, 11", x.tunings(60, 11), 0);
        Check.due("60 nights, 10", x.tunings(60, 10), 60);
        Check.due("60 nights, 0", x.tunings(60, 0), 60);
        KeyDrift one = Check.hall("k12,1,0;");
        Check.due("each twelfth of 60", one.tunings(60, 11), 0);
        Check.due("each eleventh of 60: 11, 22, 33, 44, 55", one.tunings(60, 10), 5);
        Check.due("54 nights", one.tunings(54, 10), 4);
        Check.due("55 nights", one.tunings(55, 10), 5);
        KeyDrift now = Check.hall("k12,1,11;");
        Check.due("11 now is not behind a night", now.tunings(1, 0), 0);
        KeyDrift still = Check.hall("k12,0,11;");
        Check.due("it stays 11", still.tunings(1, 10), 1);
        Check.due("tuned once", still.tunings(60, 0), 1);
        Check.due("no more than 11", still.tunings(60, 11), 0);
        KeyDrift two = Check.hall("k2,1,0;");
        Check.due("t above the keys", two.tunings(60, 2), 0);
        Check.due("t above the keys, 11", two.tunings(60, 11), 0);
        Check.due("each night", two.tunings(60, 0), 60);
    }

    private static void tuningsFewest() {
        Document.says("Terms 3", "TUNINGS: the fewest in the next n NIGHTS");
        Document.says("Promise 28", "TUNINGS.");
        for (int keys = 2; keys <= 12; keys++) {
            for (int drift = 0; drift < keys; drift++) {
                for (int shift = 0; shift < keys; shift++) {
                    KeyDrift x = Check.hall("k" + keys + "," + drift + "," + shift + ";");
                    for (int t = 0; t <= 11; t++) {
                        int n = 1 + (keys + drift + shift + t) % 9;
                        Check.due("tunings", x.tunings(n, t), fewest(keys, drift, shift, n, t));
                    }
                }
            }
        }
    }

    private static void tuningsRefused() {
        Document.says("Promise 28", "BAD; STATE: no HALL (ahead of BAD).");
        for (int n : edges(1, 60)) {
            Twins.refused(TOLD, "tunings in " + n, BAD, x -> x.tunings(n, 0));
            Twins.refused(BARE, "tunings in " + n + " without a HALL", STATE, x -> x.tunings(n, 0));
        }
        for (int t : edges(0, 11)) {
            Twins.refused(TOLD, "tunings, t " + t, BAD, x -> x.tunings(1, t));
            Twins.refused(BARE, "tunings, t " + t + " without a HALL", STATE, x -> x.tunings(1, t));
        }
        Twins.refused(BARE, "tunings without a HALL", STATE, x -> x.tunings(1, 0));
    }

    private static void other() {
        Document.says("Terms 3", "OTHER piano by a DRIFT, a SHIFT of its own: behind how many NIGHTS (0: now; "
            + "100 at most) both have one SHIFT; NONE.");
        Document.says("Promise 29", "OTHER (DRIFT, SHIFT below KEYS); NONE.");
        for (int keys : new int[] {2, 3, 8, 12}) {
            for (int drift = 0; drift < keys; drift++) {
                for (int shift = 0; shift < keys; shift++) {
                    KeyDrift x = Check.hall("k" + keys + "," + drift + ",1;");
                    for (int own = 0; own < keys; own++) {
                        int due = nightsUntil(keys, Math.floorMod(own - drift, keys), Math.floorMod(shift - 1, keys), 0);
                        Check.due("other", x.other(own, shift), due);
                    }
                }
            }
        }
        KeyDrift x = Check.hall("k12,11,0;");
        Check.due("now", x.other(11, 0), 0);
        Check.due("never", x.other(11, 11), NONE);
        Check.due("eleven nights", x.other(0, 1), 11);
        Check.due("drift 0, shift 11", x.other(0, 11), 1);
    }

    private static void otherRefused() {
        Document.says("Promise 29", "BAD; STATE: no HALL (ahead of BAD).");
        for (int value : new int[] {MIN, -1, 7, 12, MAX}) {
            Twins.refused(TOLD, "other, drift " + value, BAD, x -> x.other(value, 0));
            Twins.refused(TOLD, "other, shift " + value, BAD, x -> x.other(0, value));
            Twins.refused(BARE, "other, drift " + value + " without a HALL", STATE, x -> x.other(value, 0));
            Twins.refused(BARE, "other, shift " + value + " without a HALL", STATE, x -> x.other(0, value));
        }
        Twins.refused(BARE, "other without a HALL", STATE, x -> x.other(0, 0));
    }

    private static void odds(KeyDrift x, int p, int n, long above, long below) {
        Check.due("above, p " + p + ", n " + n, x.thunderOdds(0, p, n, 0), above);
        Check.due("below, p " + p + ", n " + n, x.thunderOdds(0, p, n, 1), below);
    }

    private static void thunderBounds() {
        Document.says("Terms 3", "THUNDER by p of 10 (0 to 10) in n NIGHTS (0 to 6):");
        Document.says("Promise 30", "THUNDER: above (what = 0), below (1).");
        KeyDrift right = Check.hall("k12,0,3;p3,1;");
        KeyDrift wrong = Check.hall("k12,0,3;p9,1;");
        for (int p = 0; p <= 10; p++) {
            odds(right, p, 0, 1, 1);
            odds(wrong, p, 0, 0, 1);
            odds(wrong, p, 5, 0, 1);
        }
        for (int n = 0; n <= 6; n++) {
            odds(right, 0, n, 1, 1);
            odds(right, 10, n, n == 0 ? 1 : 0, 1);
            odds(wrong, 0, n, 0, 1);
            odds(wrong, 10, n, n == 6 ? 1 : 0, 1);
        }
        odds(wrong, 1, 6, 1, 1000000);
        odds(wrong, 9, 6, 531441, 1000000);
        odds(wrong, 5, 6, 1, 64);
        odds(right, 9, 6, 1, 1000000);
    }

    /** Of all ways that thunder can come, with how often each comes of 10 to the n-th. */
    private static long ways(int keys, int drift, int shift, int bias, int p, int n) {
        if (n == 0) {
            return shift == bias ? 1 : 0;
        }
        int still = (shift + drift) % keys;
        int slipped = (still + 1) % keys;
        return (10 - p) * ways(keys, drift, still, bias, p, n - 1) + p * ways(keys, drift, slipped, bias, p, n - 1);
    }

    private static void thunderFractions() {
        Document.says("Terms 3", "in each the SHIFT is 1 more besides, apart: how likely a pupil is RIGHT behind "
            + "them: a fraction.");
        for (int keys : new int[] {2, 3, 5, 12}) {
            for (int drift = 0; drift < keys; drift += 1 + keys / 4) {
                for (int learnt = 0; learnt < keys; learnt++) {
                    KeyDrift x = Check.hall("k" + keys + "," + drift + "," + (keys - 1) + ";p" + learnt + ",1;");
                    for (int p = 0; p <= 10; p++) {
                        for (int n = 0; n <= 6; n += 1 + p % 2) {
                            long above = ways(keys, drift, keys - 1, learnt, p, n);
                            long below = Math.round(Math.pow(10, n));
                            long shared = BigInteger.valueOf(above).gcd(BigInteger.valueOf(below)).longValue();
                            odds(x, p, n, above / shared, below / shared);
                        }
                    }
                }
            }
        }
    }

    private static void thunderRefused() {
        Document.says("Promise 30", "BAD.");
        for (int one : edges(0, 4)) {
            Twins.refused(TOLD, "thunderOdds of " + one, BAD, x -> x.thunderOdds(one, 1, 1, 0));
        }
        for (int p : edges(0, 10)) {
            Twins.refused(TOLD, "thunderOdds, p " + p, BAD, x -> x.thunderOdds(0, p, 1, 0));
        }
        for (int n : edges(0, 6)) {
            Twins.refused(TOLD, "thunderOdds, n " + n, BAD, x -> x.thunderOdds(0, 1, n, 0));
        }
        for (int what : edges(0, 1)) {
            Twins.refused(TOLD, "thunderOdds, what " + what, BAD, x -> x.thunderOdds(0, 1, 1, what));
        }
        Twins.refused(BARE, "thunderOdds without a HALL", BAD, x -> x.thunderOdds(0, 1, 1, 0));
    }

    private static void drawnBounds() {
        Document.says("Terms 3", "NIGHTS of n (0 to 60) by a SEED (X at first):");
        Document.says("Promise 31", "NIGHTS by a SEED (1 to 999999): SHIFT (what = 0), how many (1).");
        KeyDrift x = Check.hall("k12,5,11;p11,1;");
        for (int seed : new int[] {1, 2, 999998, 999999}) {
            Check.due("none: SHIFT as it is", x.drawn(0, seed, 0), 11);
            Check.due("none: now is not behind one", x.drawn(0, seed, 1), 0);
            Check.holds("60 nights", x.drawn(60, seed, 0) >= 0 && x.drawn(60, seed, 0) < 12);
        }
        KeyDrift nobody = Check.hall("k12,5,11;");
        Check.due("without pupils", nobody.drawn(60, 1, 1), 0);
        Check.holds("without pupils, SHIFT", nobody.drawn(60, 1, 0) >= 0);
    }

    private static void drawnBySeed() {
        Document.says("Terms 3", "in each X becomes the rest of (X times 16807) by 2147483647; if X by 5 leaves "
            + "0, there is thunder of the rest of X by KEYS; then the NIGHT: SHIFT then; on how many of these "
            + "somebody is RIGHT behind it.");
        int[] seeds = {1, 2, 5, 10, 123, 77777, 500000, 999998, 999999};
        for (int keys = 2; keys <= 12; keys++) {
            KeyDrift x = Check.hall("k" + keys + "," + (keys - 1) + ",1;p0,1;c1,1;");
            KeyDrift twice = Check.hall("k" + keys + "," + (keys - 1) + ",1;p0,1;c1,1;p0,1;c1,1;");
            for (int seed : seeds) {
                BigInteger drawn = BigInteger.valueOf(seed);
                int shift = 1;
                int right = 0;
                int asked = 1 + (seed + keys) % 60;
                for (int night = 1; night <= asked; night++) {
                    drawn = drawn.multiply(BigInteger.valueOf(16807)).mod(BigInteger.valueOf(2147483647));
                    if (drawn.longValue() % 5 == 0) {
                        shift = (int) ((shift + drawn.longValue()) % keys);
                    }
                    shift = (shift + keys - 1) % keys;
                    right += shift == 0 || shift == keys - 1 ? 1 : 0;
                }
                Check.due("SHIFT", x.drawn(asked, seed, 0), shift);
                Check.due("how many", x.drawn(asked, seed, 1), right);
                Check.due("two at once are somebody once", twice.drawn(asked, seed, 1), right);
            }
        }
    }

    private static void drawnRefused() {
        Document.says("Promise 31", "BAD; STATE: no HALL (ahead of BAD).");
        for (int n : edges(0, 60)) {
            Twins.refused(TOLD, "drawn, n " + n, BAD, x -> x.drawn(n, 1, 0));
            Twins.refused(BARE, "drawn, n " + n + " without a HALL", STATE, x -> x.drawn(n, 1, 0));
        }
        for (int seed : edges(1, 999999)) {
            Twins.refused(TOLD, "drawn, seed " + seed, BAD, x -> x.drawn(1, seed, 0));
            Twins.refused(TOLD, "drawn of none, seed " + seed, BAD, x -> x.drawn(0, seed, 0));
            Twins.refused(BARE, "drawn, seed " + seed + " without a HALL", STATE, x -> x.drawn(1, seed, 0));
        }
        for (int what : edges(0, 1)) {
            Twins.refused(TOLD, "drawn, what " + what, BAD, x -> x.drawn(1, 1, what));
            Twins.refused(BARE, "drawn, what " + what + " without a HALL", STATE, x -> x.drawn(1, 1, what));
        }
        Twins.refused(BARE, "drawn without a HALL", STATE, x -> x.drawn(0, 1, 0));
    }
}
