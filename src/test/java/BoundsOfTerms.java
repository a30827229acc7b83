/** Boundaries that hold for all calls: 'What it is', and 'Terms' ahead of its parts. */
final class BoundsOfTerms {
    private static final int BAD = KeyDrift.BAD, STATE = KeyDrift.STATE, FULL = KeyDrift.FULL;

    private BoundsOfTerms() {
    }

    static void all() {
        calls();
        fractions();
        sets();
        numbers();
        badAheadOfState();
        badAheadOfFull();
        stateAheadOfBad();
        stateAheadOfFull();
        badAheadOfFindings();
        stateAheadOfFindings();
        firstFinding();
        numbersOfFindings();
        refusedChangesNothing();
    }

    private static void calls() {
        Document.says("What it is", "An object is used for at most 512 calls after it has been made; what later "
            + "calls answer is free.");
        KeyDrift x = new KeyDrift();
        int calls = 0;
        while (calls + 9 <= 512) {
            Check.due("hall", Check.tell(x, "k7,1,2;"), 0);
            Check.due("shift", x.count(3), 2);
            calls += 9;
        }
        while (calls < 512) {
            Check.due("strike", x.strike(5), 0);
            calls++;
        }
        KeyDrift y = Check.hall("k7,1,2;p0,1;");
        for (calls = 13; calls + 2 <= 512; calls += 2) {
            Check.due("thunder", y.thunder(1), 3);
            Check.due("undo", y.undo(), 0);
        }
    }

    private static void fractions() {
        Document.says("Terms", "Numbers go from 0 on. All that is divided is cut towards 0, but fractions, told "
            + "as two numbers in lowest terms (0 is 0 by 1).");
        KeyDrift x = Check.hall("k7,0,3;p3,1;p4,1;");
        long[][] due = {{9, 10}, {4, 5}, {7, 10}, {3, 5}, {1, 2}, {2, 5}, {3, 10}, {1, 5}, {1, 10}};
        for (int p = 1; p <= 9; p++) {
            Check.due("above", x.thunderOdds(0, p, 1, 0), due[p - 1][0]);
            Check.due("below", x.thunderOdds(0, p, 1, 1), due[p - 1][1]);
        }
        Check.due("0 above", x.thunderOdds(1, 0, 6, 0), 0);
        Check.due("0 is 0 by 1", x.thunderOdds(1, 0, 6, 1), 1);
        Check.due("0 of no night", x.thunderOdds(1, 5, 0, 1), 1);
        Check.due("1 above", x.thunderOdds(0, 0, 6, 0), 1);
        Check.due("1 is 1 by 1", x.thunderOdds(0, 0, 6, 1), 1);
    }

    /** Who is in a set has the bit of its number: bit 0 of number 0, bit 23 of number 23. */
    private static void sets() {
        Document.says("Terms", "Sets are bits.");
        KeyDrift x = Check.hall("k12,1,0;ta;p0,1;p11,1;v10,1;");
        Check.due("NIGHTS 0 and 12", x.nightsOf(0, 24), 1 | 1 << 12);
        Check.due("NIGHTS 11 and 23", x.nightsOf(1, 24), 1 << 11 | 1 << 23);
        Check.due("lessons for NIGHT 2, of PUPIL 2", x.lessons(1 << 2, 1), 1 << 2);
        Check.due("no lessons for NIGHTS 0, 11, 23", x.lessons(1 | 1 << 11 | 1 << 23, 1), 0);
        x.row(0, 0, 4);
        x.set(0, 1, 11);
        x.set(0, 3, 3);
        Check.due("SHIFT 11", x.struck(0, 0, 1, 0), 1 << 11);
        Check.due("SHIFTS 3 and 11", x.struck(0, 0, 2, 1), 1 << 3 | 1 << 11);
        Check.due("all SHIFTS", x.struck(0, 0, 1, 1), (1 << 12) - 1);
        x.set(0, 0, 0);
        Check.due("KINDS 1 and 4", x.who(0, 0, 0, 0), 1 << 1 | 1 << 4);
        KeyDrift y = Check.hall("k12,6,0;");
        Check.due("the least set of one string and its like", y.chords(1), 1 | 1 << 6);
        Check.due("all strings", y.chords(63), (1 << 12) - 1);
    }

    private static void numbers() {
        Document.says("Terms", "Refusals are answers, the first of these that fits, but as told:");
        Check.due("NONE", KeyDrift.NONE, -1000000);
        Check.due("BAD", BAD, -1000001);
        Check.due("STATE", STATE, -1000002);
        Check.due("FULL", FULL, -1000003);
    }

    private static void badAheadOfState() {
        Document.says("Terms", "BAD (a number is not as told; there is no such thing), STATE (as told)");
        for (int k : new int[] {Integer.MIN_VALUE, -1, 2, Integer.MAX_VALUE}) {
            Check.due("image without a HALL", new KeyDrift().image(k), BAD);
            Check.due("restore of none", new KeyDrift().restore(k), BAD);
        }
        Check.due("image without a HALL", new KeyDrift().image(1), STATE);
        Check.due("restore of none", new KeyDrift().restore(1), STATE);
        // Where a PUPIL is asked for, a piano without a HALL has none: BAD, though there is no HALL.
        KeyDrift x = new KeyDrift();
        Check.due("learn", x.learn(0), BAD);
        Check.due("soon", x.soon(0), BAD);
        Check.due("together", x.together(0, 1), BAD);
        Check.due("nightsOf", x.nightsOf(0, 1), BAD);
        Check.due("who", x.who(0, 0, 0, 0), BAD);
        Check.due("thunderOdds", x.thunderOdds(0, 0, 0, 0), BAD);
    }

    private static void badAheadOfFull() {
        Document.says("Terms", "STATE (as told), FULL (as told)");
        KeyDrift fed = Twins.fed();
        Check.due("feed", fed.feed(256), BAD);
        Check.due("feed", fed.feed(-1), BAD);
        Check.due("feed", fed.feed(255), FULL);
        KeyDrift late = Twins.late();
        Check.due("nights", late.nights(25), BAD);
        Check.due("nights", late.nights(0), BAD);
        Check.due("nights", late.nights(24), FULL);
    }

    private static void stateAheadOfBad() {
        Document.says("Terms", "the first of these that fits, but as told:");
        KeyDrift x = new KeyDrift();
        Check.due("nights", x.nights(25), STATE);
        Check.due("thunder", x.thunder(12), STATE);
        Check.due("strike", x.strike(12), STATE);
        Check.due("struck", x.struck(8, 0, 13, 2), STATE);
        Check.due("lessons", x.lessons(-1, 2), STATE);
        Check.due("programme", x.programme(7, 4), STATE);
        Check.due("chords", x.chords(-2), STATE);
        Check.due("tunings", x.tunings(61, 12), STATE);
        Check.due("other", x.other(-1, -1), STATE);
        Check.due("drawn", x.drawn(61, 0, 2), STATE);
    }

    private static void stateAheadOfFull() {
        Document.says("Terms", "STATE (as told), FULL (as told)");
        KeyDrift x = Twins.bareFed();
        Check.due("nights without a HALL", x.nights(24), STATE);
        Check.due("feed needs no HALL", x.feed('k'), FULL);
    }

    private static void badAheadOfFindings() {
        Document.says("Terms", "then FINDINGS");
        KeyDrift x = Check.hall(Check.FIVE);
        Check.due("row, SIZE", x.row(8, 0, -1), BAD);
        Check.due("row, SIZE", x.row(0, 3, -1), BAD);
        Check.due("set, no ROW", x.set(8, -1, 0), BAD);
        Check.due("copy, NULL", x.copy(0, 0, 8, 0, 0), BAD);
        Check.due("struck, NULL", x.struck(0, 0, 13, 0), BAD);
        Check.due("who, NULL", x.who(0, 3, 0, 0), BAD);
        Check.due("as, KIND", x.as(5, 5), BAD);
        Check.due("status", x.status(), 0);
    }

    private static void stateAheadOfFindings() {
        Document.says("Terms", "STATE (as told), FULL (as told), then FINDINGS");
        KeyDrift x = new KeyDrift();
        Check.due("struck, NULL", x.struck(0, 0, 1, 0), STATE);
        x.row(0, 0, 1);
        Check.due("struck, PLACE", x.struck(0, 0, 1, 0), STATE);
        Check.due("status", x.status(), 0);
    }

    private static void firstFinding() {
        Document.says("Terms", "of several the first in time:");
        KeyDrift x = Check.hall(Check.FIVE);
        x.row(0, 0, 2);
        x.row(1, 1, 2);
        Check.due("set: NULL, PLACE", x.set(5, 40, 0), Check.NULL);
        Check.due("copy: NULL, PLACE", x.copy(5, -1, 0, -1, -1), Check.NULL);
        Check.due("copy: NULL, PLACE", x.copy(0, -1, 5, -1, -1), Check.NULL);
        Check.due("copy: STORE, PLACE", x.copy(0, -1, 1, -1, -1), Check.STORE);
        Check.due("copy: PLACE", x.copy(0, -1, 0, -1, -1), Check.PLACE);
        Check.due("struck: NULL, PLACE", x.struck(5, -1, 12, 0), Check.NULL);
        Check.due("who: NULL, PLACE", x.who(0, 0, 5, -1), Check.NULL);
    }

    private static void numbersOfFindings() {
        Document.says("Terms", "-1000010 less 1 NULL (a ROW that is missing), 2 PLACE (no such place of a ROW), "
            + "3 KIND (a PUPIL that is not that), 4 SIZE (fewer than none), 5 STORE (ROWS of two LANES).");
        KeyDrift x = Check.hall(Check.FIVE);
        Check.due("NULL", x.drop(0), -1000011);
        Check.due("its number", x.status(), 1);
        x.row(0, 0, 1);
        x.row(1, 2, 1);
        Check.due("PLACE", x.set(0, 1, 0), -1000012);
        Check.due("its number", x.status(), 2);
        Check.due("KIND", x.as(0, 2), -1000013);
        Check.due("its number", x.status(), 3);
        Check.due("SIZE", x.row(0, 0, -1), -1000014);
        Check.due("its number", x.status(), 4);
        Check.due("STORE", x.copy(0, 0, 1, 0, 1), -1000015);
        Check.due("its number", x.status(), 5);
    }

    /** One of each; each promise has its own refusals tested so. */
    private static void refusedChangesNothing() {
        Document.says("Terms", "What is refused, or found, changes nothing but status().");
        Twins.refused(Twins::told, "BAD", BAD, x -> x.thunder(12));
        Twins.refused(Twins::bare, "STATE", STATE, x -> x.thunder(1));
        Twins.refused(Twins::late, "FULL", FULL, x -> x.nights(10));
        Twins.found(Twins::told, "NULL", 1, x -> x.set(3, 0, 1));
        Twins.found(Twins::told, "PLACE", 2, x -> x.set(0, 40, 1));
        Twins.found(Twins::told, "KIND", 3, x -> x.as(0, 4));
        Twins.found(Twins::told, "SIZE", 4, x -> x.row(0, 0, -1));
        Twins.found(Twins::told, "STORE", 5, x -> x.copy(0, 0, 1, 0, 1));
    }
}
