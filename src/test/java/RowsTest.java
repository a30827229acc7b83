/** Promises 2 (row), 3 (set), 4 (copy), 5 (drop), 39 (status). */
public final class RowsTest {
    private static final int BAD = KeyDrift.BAD;

    public static void main(String[] args) {
        row();
        set();
        copy();
        drop();
        status();
        Check.end();
    }

    private static void row() {
        KeyDrift x = new KeyDrift();
        Check.due("row of none", x.row(0, 0, 0), 0);
        Check.due("row of forty", x.row(7, 2, 40), 40);
        Check.due("rows", x.count(0), 2);
        Check.due("row above 40", x.row(1, 0, 41), BAD);
        Check.due("row -1", x.row(-1, 0, 1), BAD);
        Check.due("row 8", x.row(8, 0, 1), BAD);
        Check.due("lane -1", x.row(1, -1, 1), BAD);
        Check.due("lane 3", x.row(1, 3, 1), BAD);
        Check.due("size", x.row(1, 0, -1), Check.SIZE);
        Check.due("size, least", x.row(1, 0, Integer.MIN_VALUE), Check.SIZE);
        Check.due("BAD ahead of SIZE", x.row(1, 3, -1), BAD);
        Check.due("rows still", x.count(0), 2);
        x.set(7, 39, 5);
        Check.due("a row found stays", x.row(7, 0, -1), Check.SIZE);
        Check.due("a row refused stays", x.row(7, 0, 41), BAD);
        Check.due("all 40 items are there", x.copy(7, 0, 7, 0, 40), 40);
        Check.due("lane 1", x.row(7, 1, 40), 40);
        Check.fill(x, 2, 1, 9);
        Check.due("in place of what was there", x.copy(7, 39, 2, 0, 1), 1);
        Check.due("hall", Check.tell(x, "k2,0,0;ta;p0,1;"), 1);
        Check.due("0 at first", x.who(0, 0, 2, 0) & 2, 2);
    }

    private static void set() {
        KeyDrift x = new KeyDrift();
        x.row(0, 0, 2);
        x.row(1, 1, 2);
        x.row(2, 2, 2);
        Check.due("byte", x.set(0, 1, 127), 127);
        Check.due("byte wraps", x.set(0, 1, 128), -128);
        Check.due("byte lowest bits", x.set(0, 1, 0x1234), 0x34);
        Check.due("byte -1", x.set(0, 0, 255), -1);
        Check.due("short", x.set(1, 1, 32767), 32767);
        Check.due("short wraps", x.set(1, 1, 32768), -32768);
        Check.due("short lowest bits", x.set(1, 1, 0x12345), 0x2345);
        Check.due("int", x.set(2, 1, Integer.MIN_VALUE), Integer.MIN_VALUE);
        Check.due("row", x.set(8, 0, 0), BAD);
        Check.due("row -1", x.set(-1, 0, 0), BAD);
        Check.due("null", x.set(3, -1, 0), Check.NULL);
        Check.due("place 2", x.set(0, 2, 0), Check.PLACE);
        Check.due("place -1", x.set(0, -1, 0), Check.PLACE);
        Check.due("place, greatest", x.set(0, Integer.MAX_VALUE, 0), Check.PLACE);
    }

    private static void copy() {
        KeyDrift x = Check.hall("k12,0,0;tabcd;p0,12;");
        Check.fill(x, 0, 0, 0, 1, 2, 3);
        Check.due("onto itself, up", x.copy(0, 0, 0, 1, 3), 3);
        hears(x, 0, 0, 0, 1, 2);
        Check.fill(x, 0, 0, 0, 1, 2, 3);
        Check.due("onto itself, down", x.copy(0, 1, 0, 0, 3), 3);
        hears(x, 0, 1, 2, 3, 3);
        Check.fill(x, 1, 0, 7, 8, 9, 10, 11);
        Check.due("to another", x.copy(1, 3, 0, 1, 2), 2);
        hears(x, 0, 1, 10, 11, 3);
        Check.due("none, at the ends", x.copy(1, 5, 0, 4, 0), 0);
        Check.due("beyond a", x.copy(1, 4, 0, 0, 2), Check.PLACE);
        Check.due("beyond b", x.copy(1, 0, 0, 3, 2), Check.PLACE);
        Check.due("i", x.copy(1, -1, 0, 0, 1), Check.PLACE);
        Check.due("j", x.copy(1, 0, 0, -1, 1), Check.PLACE);
        Check.due("n", x.copy(1, 0, 0, 0, -1), Check.PLACE);
        Check.due("sums beyond ints", x.copy(1, Integer.MAX_VALUE, 0, 0, Integer.MAX_VALUE), Check.PLACE);
        Check.due("none beyond the end", x.copy(1, 6, 0, 0, 0), Check.PLACE);
        x.row(2, 1, 4);
        Check.due("store", x.copy(0, 0, 2, 0, 1), Check.STORE);
        Check.due("STORE ahead of PLACE", x.copy(0, -1, 2, 0, 1), Check.STORE);
        Check.due("null a", x.copy(3, 0, 0, 0, 1), Check.NULL);
        Check.due("null b", x.copy(0, 0, 3, 0, 1), Check.NULL);
        Check.due("NULL ahead of PLACE", x.copy(3, -1, 3, 0, 1), Check.NULL);
        Check.due("bad a", x.copy(8, 0, 3, 0, 1), BAD);
        Check.due("bad b", x.copy(3, 0, -1, 0, 1), BAD);
        hears(x, 0, 1, 10, 11, 3);
    }

    /** The four items of a row, by copies into a row of their own that struck() is asked of. */
    private static void hears(KeyDrift x, int row, int... items) {
        for (int i = 0; i < items.length; i++) {
            x.row(6, 0, 2);
            x.copy(row, i, 6, 1, 1);
            Check.due("item " + i, x.struck(6, 0, 1, 0), 1 << items[i]);
        }
    }

    private static void drop() {
        KeyDrift x = new KeyDrift();
        x.row(3, 1, 17);
        Check.due("drop", x.drop(3), 17);
        Check.due("rows", x.count(0), 0);
        Check.due("dropped", x.drop(3), Check.NULL);
        Check.due("set", x.set(3, 0, 1), Check.NULL);
        Check.due("row 8", x.drop(8), BAD);
        Check.due("row -1", x.drop(-1), BAD);
        x.row(3, 0, 0);
        Check.due("a row of none is there", x.count(0), 1);
        Check.due("drop of none", x.drop(3), 0);
    }

    private static void status() {
        KeyDrift x = new KeyDrift();
        Check.due("at first", x.status(), 0);
        x.row(0, 0, -5);
        Check.due("SIZE", x.status(), 4);
        x.row(0, 0, 41);
        Check.due("BAD leaves it", x.status(), 4);
        x.struck(0, 0, 1, 0);
        Check.due("STATE leaves it", x.status(), 4);
        Check.tell(x, "k3,1,0;tab;p0,2;");
        x.pupil(0, 0);
        Check.due("calls without a ROW leave it", x.status(), 4);
        x.set(0, 0, 0);
        Check.due("NULL", x.status(), 1);
        x.row(0, 0, 2);
        Check.due("none", x.status(), 0);
        x.set(0, 2, 0);
        Check.due("PLACE", x.status(), 2);
        x.as(0, 1);
        Check.due("as", x.status(), 0);
        x.as(0, 4);
        Check.due("KIND", x.status(), 3);
        x.as(0, 6);
        x.as(1, 0);
        Check.due("as, BAD", x.status(), 3);
        x.row(1, 1, 2);
        x.copy(0, 0, 1, 0, 1);
        Check.due("STORE", x.status(), 5);
        x.struck(0, 0, 1, 0);
        Check.due("struck", x.status(), 0);
        x.struck(0, 1, 1, 0);
        Check.due("struck, PLACE", x.status(), 2);
        x.who(0, 0, 0, 0);
        Check.due("who", x.status(), 0);
        x.who(0, 0, 5, 0);
        Check.due("who, NULL", x.status(), 1);
        x.set(0, 0, 1);
        Check.due("set", x.status(), 0);
        x.drop(7);
        Check.due("drop, NULL", x.status(), 1);
        x.drop(0);
        Check.due("drop", x.status(), 0);
        x.copy(0, 0, 1, 0, 0);
        Check.due("copy, NULL", x.status(), 1);
        x.copy(1, 0, 1, 0, 0);
        Check.due("copy", x.status(), 0);
    }
}
