import java.util.function.Supplier;

/** Boundaries of what is asked: KINDS of 'Terms' 3, 'Terms' 4, promises 34 to 38. */
final class BoundsOfAsked {
    private static final int BAD = KeyDrift.BAD, NONE = KeyDrift.NONE;
    private static final int MIN = Integer.MIN_VALUE, MAX = Integer.MAX_VALUE;
    private static final Supplier<KeyDrift> TOLD = Twins::told, BARE = Twins::bare;
    /** By KIND: the KINDS that it is, as bits. */
    private static final int[] IS = {0b000001, 0b000011, 0b000111, 0b001011, 0b010001, 0b110001};

    private BoundsOfAsked() {
    }

    static void all() {
        kinds();
        kindRefused();
        taken();
        takenRefused();
        noSuchKind();
        sizes();
        marks();
        bodiesBegin();
        askedByKind();
        askRefused();
        traceEmptyAhead();
        traceEnds();
        counts();
        countEnds();
        countRefused();
    }

    private static void kinds() {
        Document.says("Promise 34", "The KIND of a PUPIL, as told (1 to 5).");
        String[] sorts = {"p", "v", "s", "c", "m"};
        for (int kind = 1; kind <= 5; kind++) {
            KeyDrift x = new KeyDrift();
            StringBuilder text = new StringBuilder("k2,0,0;");
            for (int one = 0; one < 5; one++) {
                text.append(sorts[(one + kind - 1) % 5]).append("0,1;");
            }
            Check.due("five", Check.tell(x, text.toString()), 5);
            for (int one = 0; one < 5; one++) {
                Check.due("kind", x.kind(one), (one + kind - 1) % 5 + 1);
            }
        }
        Twins.tells(TOLD, "kind of the first", x -> x.kind(0));
        Twins.tells(TOLD, "kind of the last", x -> x.kind(4));
    }

    private static void kindRefused() {
        Document.says("Promise 34", "BAD.");
        for (int one : new int[] {MIN, -1, 5, MAX}) {
            Twins.refused(TOLD, "kind of " + one, BAD, x -> x.kind(one));
        }
        Twins.refused(BARE, "kind without a HALL", BAD, x -> x.kind(0));
        Check.due("no pupils", Check.hall("k2,0,0;ta;").kind(0), BAD);
        Check.due("behind the only one", Check.hall("k2,0,0;p0,1;").kind(1), BAD);
    }

    private static void taken() {
        Document.says("Terms 3", "KINDS of PUPILS: 0 PUPIL; 1 PLAYER, a PUPIL; 2 AHEAD, a PLAYER; 3 SHAMED, a "
            + "PLAYER; 4 CARRIER, a PUPIL; 5 CAT, a CARRIER.");
        Document.says("Promise 35", "A PUPIL is taken as one of a KIND (0 .. 5): its number.");
        KeyDrift x = Check.hall("k2,0,0;m0,1;c0,1;s0,1;v0,1;p0,1;");
        for (int one = 0; one < 5; one++) {
            for (int kind = 0; kind <= 5; kind++) {
                boolean isOne = (IS[5 - one] >> kind & 1) == 1;
                Check.due("as " + kind + " of kind " + (5 - one), x.as(one, kind), isOne ? one : Check.KIND);
                Check.due("status", x.status(), isOne ? 0 : 3);
            }
        }
        for (int one = 0; one < 5; one++) {
            int asked = one;
            Twins.tellsWithStatus(TOLD, "as a PUPIL", y -> y.as(asked, 0));
            Twins.tellsWithStatus(TOLD, "as what it is", y -> y.as(asked, asked + 1));
        }
    }

    private static void takenRefused() {
        Document.says("Promise 35", "BAD;");
        for (int kind : new int[] {MIN, -1, 6, MAX}) {
            Twins.refused(TOLD, "as " + kind, BAD, x -> x.as(0, kind));
        }
        for (int one : new int[] {MIN, -1, 5, MAX}) {
            Twins.refused(TOLD, "as of " + one, BAD, x -> x.as(one, 0));
            Twins.refused(TOLD, "as of " + one + ", KIND too", BAD, x -> x.as(one, 5));
        }
        Twins.refused(BARE, "as without a HALL", BAD, x -> x.as(0, 0));
    }

    private static void noSuchKind() {
        Document.says("Promise 35", "KIND: it is no such one.");
        for (int one = 0; one < 5; one++) {
            for (int kind = 0; kind <= 5; kind++) {
                int asked = one;
                int wanted = kind;
                if ((IS[one + 1] >> kind & 1) == 0) {
                    Twins.found(TOLD, "as " + kind + " of " + one, 3, x -> x.as(asked, wanted));
                }
            }
        }
    }

    private static void asked(KeyDrift x, int one, int what, int answer, int... trace) {
        Check.due("ask " + one + ", " + what, x.ask(one, what), answer);
        for (int i = 0; i < 17; i++) {
            Check.due("trace " + i + " of " + one + ", " + what, x.trace(i), i < trace.length ? trace[i] : NONE);
        }
    }

    private static void sizes() {
        Document.says("Terms 4", "ASKS of PUPILS, by BODIES, each of which leaves its number in THE TRACE as it "
            + "begins (the first 16): 0 SIZE: 10 lent to all PUPILS: SPAN. 11 of PLAYERS: what 10 gives, and "
            + "MARK. 12 of those AHEAD: 0 less what 11 gives. 13 of CARRIERS: what 10 gives, less 100. 14 of "
            + "CATS: what 13 gives, twice.");
        for (int end = 0; end < 2; end++) {
            int span = end == 0 ? 1 : 12;
            int learnt = end == 0 ? 0 : 11;
            String numbers = learnt + "," + span + ";";
            KeyDrift x = Check.hall("k12,0,0;p" + numbers + "v" + numbers + "s" + numbers + "c" + numbers + "m" + numbers);
            asked(x, 0, 0, span + 0 + learnt, 11, 10, 21, 20);
            asked(x, 1, 0, -(span + 2 * (1 + learnt)), 12, 11, 10, 24, 21, 20);
            asked(x, 2, 0, span + 2 + learnt - 1000, 11, 10, 22, 21, 20);
            asked(x, 3, 0, span - 100, 13, 10);
            asked(x, 4, 0, 2 * (span - 100), 14, 13, 10);
        }
    }

    private static void marks() {
        Document.says("Terms 4", "1 MARK: 20 lent to all PUPILS: the number. 21 of PLAYERS: what 20 gives, and "
            + "LEARNT. 22 of SHAMED ones: what 21 gives, less 1000. 23 of CARRIERS: what 20 gives, less SIZE. 24 "
            + "of those AHEAD: what 21 gives, twice.");
        for (int end = 0; end < 2; end++) {
            int span = end == 0 ? 1 : 12;
            int learnt = end == 0 ? 0 : 11;
            String numbers = learnt + "," + span + ";";
            KeyDrift x = Check.hall("k12,0,0;m" + numbers + "c" + numbers + "s" + numbers + "v" + numbers + "p" + numbers);
            asked(x, 0, 1, 0 - 2 * (span - 100), 23, 20, 14, 13, 10);
            asked(x, 1, 1, 1 - (span - 100), 23, 20, 13, 10);
            asked(x, 2, 1, 2 + learnt - 1000, 22, 21, 20);
            asked(x, 3, 1, 2 * (3 + learnt), 24, 21, 20);
            asked(x, 4, 1, 4 + learnt, 21, 20);
        }
    }

    private static void bodiesBegin() {
        Document.says("Terms 4", "(Of an ask the BODY told for the KIND begins, else that of the nearest KIND "
            + "that it is, too, else the one that is lent; SIZE, MARK within others are asked of the same PUPIL "
            + "anew.)");
        KeyDrift x = Check.hall("k12,0,5;p1,2;v3,4;s5,6;c7,8;m9,10;");
        int[] sizeBegins = {11, 12, 11, 13, 14};
        int[] markBegins = {21, 24, 22, 23, 23};
        for (int one = 0; one < 5; one++) {
            x.ask(one, 0);
            Check.due("SIZE begins", x.trace(0), sizeBegins[one]);
            x.ask(one, 1);
            Check.due("MARK begins", x.trace(0), markBegins[one]);
        }
        asked(x, 2, 0, 6 + 2 + 5 - 1000, 11, 10, 22, 21, 20);
        x.learn(1);
        asked(x, 1, 0, -(4 + 2 * (1 + 5)), 12, 11, 10, 24, 21, 20);
        x.undo();
        asked(x, 1, 0, -(4 + 2 * (1 + 3)), 12, 11, 10, 24, 21, 20);
    }

    /** Pupils that differ by nothing but their KIND are asked by it, wherever they stand. */
    private static void askedByKind() {
        Document.says("Terms 3", "By this it is asked.");
        String[] sorts = {"p", "v", "s", "c", "m"};
        int[] sizeBegins = {11, 12, 11, 13, 14};
        int[] markBegins = {21, 24, 22, 23, 23};
        for (int one = 0; one < 5; one++) {
            for (int sort = 0; sort < 5; sort++) {
                StringBuilder text = new StringBuilder("k12,0,0;");
                for (int i = 0; i < 5; i++) {
                    text.append(sorts[i == one ? sort : (sort + 1) % 5]).append("3,4;");
                }
                KeyDrift x = Check.hall(text.toString());
                Check.due("kind", x.kind(one), sort + 1);
                Check.due("as what it is", x.as(one, sort + 1), one);
                x.ask(one, 0);
                Check.due("SIZE begins", x.trace(0), sizeBegins[sort]);
                x.ask(one, 1);
                Check.due("MARK begins", x.trace(0), markBegins[sort]);
            }
        }
    }

    private static void askRefused() {
        Document.says("Promise 36", "An ASK (0, 1) of a PUPIL. BAD.");
        for (int what : new int[] {MIN, -1, 2, MAX}) {
            Twins.refused(TOLD, "ask " + what, BAD, x -> x.ask(0, what));
        }
        for (int one : new int[] {MIN, -1, 5, MAX}) {
            Twins.refused(TOLD, "ask of " + one, BAD, x -> x.ask(one, 0));
        }
        Twins.refused(BARE, "ask without a HALL", BAD, x -> x.ask(0, 0));
    }

    /** A longer trace leaves nothing behind the next one; an ask that is refused is none. */
    private static void traceEmptyAhead() {
        Document.says("Promise 36", "THE TRACE is empty ahead of it.");
        KeyDrift x = Check.hall(Check.FIVE);
        asked(x, 1, 0, -(7 + 2 * (1 + 1)), 12, 11, 10, 24, 21, 20);
        asked(x, 3, 0, 12 - 100, 13, 10);
        asked(x, 3, 0, 12 - 100, 13, 10);
        asked(x, 0, 1, 3, 21, 20);
        Check.due("ask 2", x.ask(1, 2), BAD);
        Check.due("the trace is as it was", x.trace(0), 21);
        Check.due("the trace is as it was", x.trace(1), 20);
        Check.due("the trace is as it was", x.trace(2), NONE);
    }

    private static void traceEnds() {
        Document.says("Promise 37", "Number i of THE TRACE; NONE.");
        for (int i : new int[] {MIN, -1, 0, 1, 15, 16, MAX}) {
            Check.due("before an ask", new KeyDrift().trace(i), NONE);
        }
        KeyDrift x = Check.hall(Check.FIVE);
        Check.due("a HALL asks nobody", x.trace(0), NONE);
        x.ask(1, 0);
        int[] trace = {12, 11, 10, 24, 21, 20};
        for (int i = 0; i < trace.length; i++) {
            Check.due("trace", x.trace(i), trace[i]);
            Check.due("asked again", x.trace(i), trace[i]);
        }
        for (int i : new int[] {MIN, -1, 6, 7, 15, 16, 17, MAX}) {
            Check.due("trace " + i, x.trace(i), NONE);
        }
        for (int i : new int[] {MIN, -1, 0, 4, 5, 15, 16, MAX}) {
            Twins.tells(TOLD, "trace " + i, y -> y.trace(i));
            Twins.tells(BARE, "trace " + i, y -> y.trace(i));
        }
    }

    private static void counts() {
        Document.says("Promise 38", "How many: 0 ROWS, 1 KEYS, 2 DRIFT, 3 SHIFT, 4 PIECES, 5 PUPILS, 6 NIGHT, 7 "
            + "ACTS that can be undone, 8 bytes on the tape.");
        KeyDrift x = Twins.told();
        int[] wanted = {4, 7, 2, 0, 3, 5, 20, 24, 7};
        for (int what = 0; what < wanted.length; what++) {
            Check.due("count " + what, x.count(what), wanted[what]);
            int asked = what;
            Twins.tells(TOLD, "count " + what, y -> y.count(asked));
            Twins.tells(BARE, "count " + what, y -> y.count(asked));
        }
        KeyDrift bare = Twins.bare();
        int[] none = {4, 0, 0, 0, 0, 0, 0, 0, 7};
        for (int what = 0; what < none.length; what++) {
            Check.due("count " + what + " without a HALL", bare.count(what), none[what]);
        }
    }

    private static void countEnds() {
        Document.says("Promise 38", "How many: 0 ROWS");
        KeyDrift x = Check.hall("k12,11,11;ta;ta;ta;ta;p0,1;p0,1;p0,1;p0,1;p0,1;");
        for (int row = 0; row < 8; row++) {
            x.row(row, 0, 0);
        }
        for (int i = 0; i < 41; i++) {
            x.nights(24);
        }
        x.nights(15);
        for (int i = 0; i < 120; i++) {
            x.feed(0);
        }
        int[] most = {8, 12, 11, (11 + 999 * 11) % 12, 4, 5, 999, 24, 120};
        for (int what = 0; what < most.length; what++) {
            Check.due("as many as there can be, " + what, x.count(what), most[what]);
        }
    }

    private static void countRefused() {
        Document.says("Promise 38", "BAD.");
        for (int what : new int[] {MIN, -1, 9, MAX}) {
            Twins.refused(TOLD, "count " + what, BAD, x -> x.count(what));
            Twins.refused(BARE, "count " + what, BAD, x -> x.count(what));
        }
    }
}
