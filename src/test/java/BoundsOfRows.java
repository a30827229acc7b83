import java.util.function.Supplier;

/** Boundaries of ROWS: 'Terms' 1, promises 1 to 5 and 39. */
final class BoundsOfRows {
    private static final int BAD = KeyDrift.BAD, STATE = KeyDrift.STATE;
    private static final int MIN = Integer.MIN_VALUE, MAX = Integer.MAX_VALUE;
    private static final Supplier<KeyDrift> TOLD = Twins::told, BARE = Twins::bare;

    private BoundsOfRows() {
    }

    static void all() {
        newObject();
        missingAtFirst();
        numbersOfRows();
        lanes();
        howManyItems();
        zeroAtFirst();
        rowInPlace();
        rowRefused();
        lowestBits();
        setRefused();
        copyAsAhead();
        copyOfNone();
        copyRefused();
        copyBeyondEnds();
        dropped();
        dropRefused();
        statusOfLatest();
        statusLeft();
    }

    private static void newObject() {
        Document.says("Promise 1", "No HALL.");
        KeyDrift x = new KeyDrift();
        for (int what = 0; what <= 8; what++) {
            Check.due("count " + what, x.count(what), 0);
        }
        Check.due("itself", x.itself(), STATE);
        Check.due("image", x.image(0), STATE);
        Check.due("tune", x.tune(), STATE);
        Check.due("pupil", x.pupil(0, 0), BAD);
        Check.due("piece", x.piece(0, -1), BAD);
    }

    private static void missingAtFirst() {
        Document.says("Terms 1", "ROWS 0 .. 7 are missing (at first)");
        for (int row = 0; row < 8; row++) {
            KeyDrift x = Check.hall(Check.FIVE);
            Check.due("set", x.set(row, 0, 0), Check.NULL);
            Check.due("copy", x.copy(row, 0, row, 0, 0), Check.NULL);
            Check.due("drop", x.drop(row), Check.NULL);
            Check.due("struck", x.struck(row, 0, 1, 0), Check.NULL);
            Check.due("who", x.who(0, 0, row, 0), Check.NULL);
            Check.due("rows", x.count(0), 0);
        }
    }

    private static void numbersOfRows() {
        Document.says("Terms 1", "ROWS 0 .. 7");
        KeyDrift x = new KeyDrift();
        for (int row = 0; row < 8; row++) {
            Check.due("row " + row, x.row(row, row % 3, row), row);
            Check.due("rows", x.count(0), row + 1);
        }
        for (int row = 0; row < 8; row++) {
            Check.due("drop " + row, x.drop(row), row);
            Check.due("rows", x.count(0), 7 - row);
        }
    }

    private static void lanes() {
        Document.says("Terms 1", "or have a LANE (0 bytes, 1 shorts, 2 ints)");
        int[][] ends = {{-128, 127}, {-32768, 32767}, {MIN, MAX}};
        for (int lane = 0; lane < 3; lane++) {
            KeyDrift x = new KeyDrift();
            x.row(0, lane, 1);
            Check.due("the least", x.set(0, 0, ends[lane][0]), ends[lane][0]);
            Check.due("the greatest", x.set(0, 0, ends[lane][1]), ends[lane][1]);
            Check.due("one less than the least", x.set(0, 0, ends[lane][0] - 1), ends[lane][1]);
            Check.due("one more than the greatest", x.set(0, 0, ends[lane][1] + 1), ends[lane][0]);
        }
    }

    private static void howManyItems() {
        Document.says("Terms 1", "and 0 to 40 ITEMS");
        for (int n = 0; n <= 40; n++) {
            KeyDrift x = new KeyDrift();
            Check.due("row", x.row(3, n % 3, n), n);
            Check.due("behind the last", x.set(3, n, 1), Check.PLACE);
            Check.due("the last", x.set(3, n - 1, 1), n == 0 ? Check.PLACE : 1);
            Check.due("all", x.copy(3, 0, 3, 0, n), n);
            Check.due("one more than all", x.copy(3, 0, 3, 0, n + 1), Check.PLACE);
            Check.due("drop", x.drop(3), n);
        }
    }

    private static void zeroAtFirst() {
        Document.says("Terms 1", "ITEMS, 0 at first.");
        for (int lane = 0; lane < 3; lane++) {
            KeyDrift x = Check.hall("k12,0,0;");
            x.row(0, lane, 40);
            zeros(x, 40);
            for (int i = 0; i < 40; i++) {
                x.set(0, i, 1 + i);
            }
            x.row(0, lane, 2);
            zeros(x, 2);
            x.row(0, lane, 40);
            zeros(x, 40);
            x.set(0, 39, 5);
            x.drop(0);
            x.row(0, lane, 40);
            zeros(x, 40);
        }
    }

    /** Key 0 gives string 0 by SHIFT 0 alone; twelve such pairs at once tell of 24 ITEMS. */
    private static void zeros(KeyDrift x, int n) {
        int pairs = Math.min(12, n / 2);
        Check.due("0 at the begin", x.struck(0, 0, pairs, 0), 1);
        Check.due("0 at the end", x.struck(0, n - 2 * pairs, pairs, 0), 1);
    }

    private static void rowInPlace() {
        Document.says("Promise 2", "A ROW of a LANE with n ITEMS, in place of what is there: n.");
        KeyDrift x = new KeyDrift();
        Check.due("forty bytes", x.row(5, 0, 40), 40);
        Check.due("no shorts in their place", x.row(5, 1, 0), 0);
        Check.due("one row", x.count(0), 1);
        Check.due("no item is left", x.set(5, 0, 1), Check.PLACE);
        Check.due("one int in its place", x.row(5, 2, 1), 1);
        Check.due("it is of ints", x.set(5, 0, 70000), 70000);
        Check.due("drop", x.drop(5), 1);
    }

    private static void rowRefused() {
        Document.says("Promise 2", "BAD: ROW, LANE, n above 40; SIZE.");
        for (int row : new int[] {MIN, -1, 8, MAX}) {
            Twins.refused(TOLD, "row of " + row, BAD, x -> x.row(row, 0, 1));
            Twins.refused(TOLD, "row of " + row + ", SIZE too", BAD, x -> x.row(row, 0, -1));
        }
        for (int lane : new int[] {MIN, -1, 3, MAX}) {
            Twins.refused(TOLD, "row of lane " + lane, BAD, x -> x.row(0, lane, 1));
            Twins.refused(BARE, "row of lane " + lane + ", SIZE too", BAD, x -> x.row(0, lane, -1));
        }
        for (int n : new int[] {41, MAX}) {
            Twins.refused(TOLD, "row in place with n " + n, BAD, x -> x.row(0, 0, n));
            Twins.refused(BARE, "row with n " + n, BAD, x -> x.row(3, 2, n));
        }
        for (int n : new int[] {-1, -41, MIN}) {
            Twins.found(TOLD, "row in place with n " + n, 4, x -> x.row(0, 0, n));
            Twins.found(BARE, "row with n " + n, 4, x -> x.row(7, 2, n));
        }
    }

    private static void lowestBits() {
        Document.says("Promise 3", "ITEM i becomes v, its lowest bits, as many as the LANE has: what it is then.");
        int[] values = {0, 1, -1, 127, 128, -128, -129, 255, 256, 32767, 32768, -32768, -32769, 65535, 65536, MIN, MAX};
        KeyDrift x = Check.hall("k12,0,0;");
        x.row(0, 0, 40);
        x.row(1, 1, 40);
        x.row(2, 2, 40);
        for (int v : values) {
            Check.due("a byte of " + v, x.set(0, 39, v), (byte) v);
            Check.due("a short of " + v, x.set(1, 39, v), (short) v);
            Check.due("an int of " + v, x.set(2, 39, v), v);
        }
        Check.due("256 and 5 is 5", x.set(0, 1, 261), 5);
        Check.due("and is so then", x.struck(0, 0, 1, 0), 1 << 5);
        Check.due("another item stays", x.struck(0, 2, 1, 0), 1);
    }

    private static void setRefused() {
        Document.says("Promise 3", "BAD: ROW; NULL; PLACE.");
        for (int row : new int[] {MIN, -1, 8, MAX}) {
            Twins.refused(TOLD, "set of row " + row, BAD, x -> x.set(row, 0, 1));
            Twins.refused(TOLD, "set of row " + row + ", PLACE too", BAD, x -> x.set(row, -1, 1));
        }
        Twins.found(TOLD, "set of a row that is missing", 1, x -> x.set(3, 0, 1));
        Twins.found(TOLD, "set, missing, PLACE too", 1, x -> x.set(3, -1, 1));
        for (int i : new int[] {MIN, -1, 40, 41, MAX}) {
            Twins.found(TOLD, "set of place " + i, 2, x -> x.set(0, i, 1));
        }
        for (int i : new int[] {-1, 6}) {
            Twins.found(TOLD, "set of six, place " + i, 2, x -> x.set(1, i, 1));
        }
        Twins.found(TOLD, "set of none, place 0", 2, x -> x.set(2, 0, 1));
        KeyDrift x = Twins.told();
        Check.due("the first place", x.set(0, 0, 9), 9);
        Check.due("the last place", x.set(0, 39, 9), 9);
        Check.due("the last of six", x.set(1, 5, 9), 9);
    }

    private static void copyAsAhead() {
        Document.says("Promise 4", "n ITEMS of a from i on come to b from j on, as they were ahead: n.");
        for (int from = 0; from <= 3; from++) {
            for (int to = 0; to <= 3; to++) {
                overlapping(from, to);
            }
        }
        KeyDrift x = Check.hall("k12,0,0;");
        x.row(0, 1, 40);
        x.row(1, 1, 40);
        x.set(0, 0, 7);
        x.set(0, 39, 8);
        Check.due("all forty", x.copy(0, 0, 1, 0, 40), 40);
        Check.due("the last of them", x.struck(1, 38, 1, 0), 1 << 8);
        x.set(0, 39, 3);
        Check.due("they are not those of a", x.struck(1, 38, 1, 0), 1 << 8);
        Check.due("the last to the first", x.copy(0, 39, 1, 1, 1), 1);
        Check.due("key 7, string 3", x.struck(1, 0, 1, 0), 1 << 8);
        Check.due("the first to the last", x.copy(0, 0, 1, 39, 1), 1);
        Check.due("key 0, string 7", x.struck(1, 38, 1, 0), 1 << 7);
    }

    /** Items 1, 2, .. of one ROW onto itself, told by copies into a pair. */
    private static void overlapping(int from, int to) {
        KeyDrift x = Check.hall("k12,0,0;");
        int[] items = {1, 2, 3, 4, 5, 6, 7, 8};
        Check.fill(x, 0, 0, items);
        int[] due = items.clone();
        System.arraycopy(items, from, due, to, 5);
        Check.due("copy", x.copy(0, from, 0, to, 5), 5);
        x.row(1, 0, 2);
        for (int i = 0; i < due.length; i++) {
            x.copy(0, i, 1, 1, 1);
            Check.due("item " + i + " from " + from + " to " + to, x.struck(1, 0, 1, 0), 1 << due[i]);
        }
    }

    private static void copyOfNone() {
        Document.says("Promise 4", "n ITEMS of a from i on come to b from j on");
        KeyDrift x = new KeyDrift();
        x.row(0, 0, 0);
        x.row(1, 0, 40);
        Check.due("none of none", x.copy(0, 0, 0, 0, 0), 0);
        Check.due("none to none", x.copy(1, 0, 0, 0, 0), 0);
        Check.due("none at both ends", x.copy(1, 40, 1, 40, 0), 0);
        Check.due("none, from the end", x.copy(1, 40, 0, 0, 0), 0);
        Check.due("one of none", x.copy(0, 0, 1, 0, 1), Check.PLACE);
        Check.due("one to none", x.copy(1, 0, 0, 0, 1), Check.PLACE);
    }

    private static void copyRefused() {
        Document.says("Promise 4", "BAD: ROWS; NULL; STORE; PLACE");
        for (int row : new int[] {MIN, -1, 8, MAX}) {
            Twins.refused(TOLD, "copy of a " + row, BAD, x -> x.copy(row, 0, 0, 0, 1));
            Twins.refused(TOLD, "copy of b " + row, BAD, x -> x.copy(0, 0, row, 0, 1));
            Twins.refused(TOLD, "copy of a " + row + ", b missing", BAD, x -> x.copy(row, 0, 3, 0, 1));
            Twins.refused(TOLD, "copy of b " + row + ", a missing, PLACE too", BAD, x -> x.copy(3, -1, row, 0, 1));
        }
        Twins.found(TOLD, "copy, a is missing", 1, x -> x.copy(3, 0, 0, 0, 1));
        Twins.found(TOLD, "copy, b is missing", 1, x -> x.copy(0, 0, 3, 0, 1));
        Twins.found(TOLD, "copy, a is missing, PLACE too", 1, x -> x.copy(3, 0, 0, 40, 1));
        Twins.found(TOLD, "copy, b is missing, PLACE too", 1, x -> x.copy(0, 40, 3, 0, 1));
        Twins.found(TOLD, "copy, both are missing, none", 1, x -> x.copy(3, 0, 5, 0, 0));
        Twins.found(TOLD, "copy of bytes to shorts", 5, x -> x.copy(0, 0, 1, 0, 1));
        Twins.found(TOLD, "copy of shorts to bytes", 5, x -> x.copy(1, 0, 0, 0, 1));
        Twins.found(TOLD, "copy of none to ints", 5, x -> x.copy(0, 0, 2, 0, 0));
        Twins.found(TOLD, "copy of ints to bytes, PLACE too", 5, x -> x.copy(2, 0, 0, 0, 1));
        Twins.found(TOLD, "copy to shorts, n below 0 too", 5, x -> x.copy(0, 0, 1, 0, -1));
    }

    private static void copyBeyondEnds() {
        Document.says("Promise 4", "PLACE (i, j, n below 0, or beyond an end).");
        for (int below : new int[] {-1, -40, MIN}) {
            Twins.found(TOLD, "copy, i " + below, 2, x -> x.copy(0, below, 4, 0, 1));
            Twins.found(TOLD, "copy, j " + below, 2, x -> x.copy(0, 0, 4, below, 1));
            Twins.found(TOLD, "copy, n " + below, 2, x -> x.copy(0, 0, 4, 0, below));
            Twins.found(TOLD, "copy of none, i " + below, 2, x -> x.copy(0, below, 4, 0, 0));
            Twins.found(TOLD, "copy of none, j " + below, 2, x -> x.copy(0, 0, 4, below, 0));
        }
        Twins.found(TOLD, "copy, the end of a", 2, x -> x.copy(0, 38, 4, 0, 3));
        Twins.found(TOLD, "copy, the end of b", 2, x -> x.copy(0, 0, 4, 1, 3));
        Twins.found(TOLD, "copy, more than b has", 2, x -> x.copy(0, 0, 4, 0, 4));
        Twins.found(TOLD, "copy of none behind the end of a", 2, x -> x.copy(0, 41, 4, 0, 0));
        Twins.found(TOLD, "copy of none behind the end of b", 2, x -> x.copy(0, 0, 4, 4, 0));
        Twins.found(TOLD, "copy, i the greatest", 2, x -> x.copy(0, MAX, 4, 0, 1));
        Twins.found(TOLD, "copy, j the greatest", 2, x -> x.copy(0, 0, 4, MAX, 1));
        Twins.found(TOLD, "copy, n the greatest", 2, x -> x.copy(0, 0, 4, 0, MAX));
        Twins.found(TOLD, "copy, i and n leave the ints", 2, x -> x.copy(0, MAX, 0, 0, MAX));
        Twins.found(TOLD, "copy, j and n leave the ints", 2, x -> x.copy(0, 1, 0, MAX, MAX));
        KeyDrift x = Twins.told();
        Check.due("up to the end of a", x.copy(0, 37, 4, 0, 3), 3);
        Check.due("up to the end of b", x.copy(0, 0, 4, 2, 1), 1);
    }

    private static void dropped() {
        Document.says("Promise 5", "A ROW is missing from now on: how many ITEMS it had.");
        KeyDrift x = Check.hall(Check.FIVE);
        x.row(0, 0, 0);
        x.row(7, 2, 40);
        Check.due("of forty", x.drop(7), 40);
        Check.due("the other is there yet", x.count(0), 1);
        Check.due("of none", x.drop(0), 0);
        Check.due("no row", x.count(0), 0);
        for (int row : new int[] {0, 7}) {
            Check.due("set", x.set(row, 0, 0), Check.NULL);
            Check.due("copy", x.copy(row, 0, row, 0, 0), Check.NULL);
            Check.due("struck", x.struck(row, 0, 1, 0), Check.NULL);
            Check.due("who", x.who(0, 0, row, 0), Check.NULL);
            Check.due("drop", x.drop(row), Check.NULL);
        }
        Check.due("a row anew", x.row(7, 0, 1), 1);
        Check.due("is there", x.set(7, 0, 1), 1);
    }

    private static void dropRefused() {
        Document.says("Promise 5", "BAD; NULL.");
        for (int row : new int[] {MIN, -1, 8, MAX}) {
            Twins.refused(TOLD, "drop of " + row, BAD, x -> x.drop(row));
            Twins.refused(BARE, "drop of " + row, BAD, x -> x.drop(row));
        }
        for (int row : new int[] {3, 5, 6, 7}) {
            Twins.found(TOLD, "drop of " + row, 1, x -> x.drop(row));
        }
    }

    private static void statusOfLatest() {
        Document.says("Promise 39", "Of the latest call with a ROW, or as(), that was not BAD, STATE, FULL: the "
            + "number of its FINDING; 0: it had none, or there was none.");
        Check.due("at first", new KeyDrift().status(), 0);
        Twins.Call[] plain = {x -> x.row(3, 0, 1), x -> x.set(0, 0, 0), x -> x.copy(0, 0, 0, 0, 0), x -> x.drop(0),
            x -> x.struck(0, 0, 1, 0), x -> x.who(0, 0, 4, 0), x -> x.as(0, 0)};
        for (int i = 0; i < plain.length; i++) {
            KeyDrift x = Twins.told();
            Check.due("behind a finding", x.status(), 4);
            plain[i].on(x);
            Check.due("behind plain call " + i, x.status(), 0);
        }
        int[] numbers = {4, 1, 2, 1, 5, 2, 1, 1, 2, 1, 2, 3};
        Twins.Call[] found = {x -> x.row(3, 0, -1), x -> x.set(3, 0, 0), x -> x.set(0, 40, 0),
            x -> x.copy(3, 0, 0, 0, 0), x -> x.copy(0, 0, 1, 0, 0), x -> x.copy(0, 0, 0, 0, 41), x -> x.drop(3),
            x -> x.struck(3, 0, 1, 0), x -> x.struck(0, 39, 1, 0), x -> x.who(0, 0, 3, 0), x -> x.who(0, 0, 4, 1),
            x -> x.as(0, 5)};
        for (int i = 0; i < found.length; i++) {
            KeyDrift x = Twins.told();
            Check.due("a finding", found[i].on(x), -1000010 - numbers[i]);
            Check.due("behind it", x.status(), numbers[i]);
            Check.due("asked again", x.status(), numbers[i]);
            x.copy(0, 0, 0, 0, 0);
            Check.due("behind a plain one", x.status(), 0);
        }
    }

    /** Calls without a ROW say nothing of ROWS, whether they are refused or not. */
    private static void statusLeft() {
        Document.says("Promise 39", "Of the latest call with a ROW, or as()");
        Twins.Call[] others = {x -> x.feed('k'), x -> x.feed(-1), x -> x.hall(), x -> x.fault(), x -> x.undo(),
            x -> x.nights(1), x -> x.nights(0), x -> x.thunder(1), x -> x.tune(), x -> x.learn(0), x -> x.learn(9),
            x -> x.piece(0, 0), x -> x.pupil(0, 0), x -> x.plays(0, 0, 0), x -> x.heard(0, 0, 0), x -> x.strike(0),
            x -> x.soon(0), x -> x.together(0, 1), x -> x.itself(), x -> x.nightsOf(0, 1), x -> x.lessons(0, 0),
            x -> x.programme(1, -1), x -> x.chords(-1), x -> x.tunings(1, 0), x -> x.other(0, 0),
            x -> x.thunderOdds(0, 0, 0, 0), x -> x.drawn(0, 1, 0), x -> x.image(0), x -> x.restore(0),
            x -> x.restore(1), x -> x.kind(0), x -> x.ask(0, 0), x -> x.ask(0, 2), x -> x.trace(0), x -> x.count(0)};
        for (int i = 0; i < others.length; i++) {
            KeyDrift x = Twins.told();
            others[i].on(x);
            Check.due("behind call " + i + " without a row", x.status(), 4);
            x.copy(0, 0, 0, 0, 0);
            others[i].on(x);
            Check.due("behind a plain one and call " + i, x.status(), 0);
        }
        KeyDrift x = Twins.bare();
        x.struck(0, 0, 1, 0);
        Check.due("struck() that is STATE", x.status(), 4);
        x.who(0, 0, 0, 0);
        Check.due("who() that is BAD", x.status(), 4);
        x.as(0, 0);
        Check.due("as() that is BAD", x.status(), 4);
    }
}
