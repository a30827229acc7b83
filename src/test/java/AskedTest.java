/** Promises 34 (kind), 35 (as), 36 (ask), 37 (trace). */
public final class AskedTest {
    private static final int BAD = KeyDrift.BAD, NONE = KeyDrift.NONE;

    public static void main(String[] args) {
        kind();
        as();
        asks();
        refusedAsk();
        Check.end();
    }

    private static void kind() {
        KeyDrift x = Check.hall(Check.FIVE);
        for (int one = 0; one < 5; one++) {
            Check.due("kind " + one, x.kind(one), one + 1);
        }
        Check.due("kind 5", x.kind(5), BAD);
        Check.due("kind -1", x.kind(-1), BAD);
        Check.due("no hall", new KeyDrift().kind(0), BAD);
    }

    private static void as() {
        KeyDrift x = Check.hall(Check.FIVE);
        // By KIND 1 .. 5: the KINDS 0 .. 5 that it is.
        int[] is = {0b000011, 0b000111, 0b001011, 0b010001, 0b110001};
        for (int one = 0; one < 5; one++) {
            for (int kind = 0; kind <= 5; kind++) {
                boolean isOne = (is[one] >> kind & 1) == 1;
                Check.due("as " + one + " " + kind, x.as(one, kind), isOne ? one : Check.KIND);
            }
        }
        Check.due("kind 6", x.as(0, 6), BAD);
        Check.due("kind -1", x.as(0, -1), BAD);
        Check.due("one 5", x.as(5, 0), BAD);
        Check.due("one -1", x.as(-1, 0), BAD);
    }

    private static void asks() {
        KeyDrift x = Check.hall(Check.FIVE);
        asked(x, 0, 0, 4 + 0 + 3, 11, 10, 21, 20);
        asked(x, 0, 1, 0 + 3, 21, 20);
        asked(x, 1, 0, -(7 + 2 * (1 + 1)), 12, 11, 10, 24, 21, 20);
        asked(x, 1, 1, 2 * (1 + 1), 24, 21, 20);
        asked(x, 2, 0, 2 + (2 + 5 - 1000), 11, 10, 22, 21, 20);
        asked(x, 2, 1, 2 + 5 - 1000, 22, 21, 20);
        asked(x, 3, 0, 12 - 100, 13, 10);
        asked(x, 3, 1, 3 - (12 - 100), 23, 20, 13, 10);
        asked(x, 4, 0, 2 * (3 - 100), 14, 13, 10);
        asked(x, 4, 1, 4 - 2 * (3 - 100), 23, 20, 14, 13, 10);
        KeyDrift ahead = Check.hall("k9,2,3;p0,1;p0,1;p0,1;v7,5;");
        asked(ahead, 3, 0, -(5 + 2 * (3 + 7)), 12, 11, 10, 24, 21, 20);
        asked(ahead, 3, 1, 2 * (3 + 7), 24, 21, 20);
        x.nights(1);
        x.learn(0);
        asked(x, 0, 1, 0 + 5, 21, 20);
    }

    private static void asked(KeyDrift x, int one, int what, int answer, int... trace) {
        Check.due("ask " + one + " " + what, x.ask(one, what), answer);
        for (int i = 0; i < trace.length; i++) {
            Check.due("trace " + i + " of " + one + " " + what, x.trace(i), trace[i]);
        }
        Check.due("behind the trace of " + one + " " + what, x.trace(trace.length), NONE);
    }

    private static void refusedAsk() {
        KeyDrift x = Check.hall(Check.FIVE);
        x.ask(3, 0);
        Check.due("what 2", x.ask(0, 2), BAD);
        Check.due("what -1", x.ask(0, -1), BAD);
        Check.due("one 5", x.ask(5, 0), BAD);
        Check.due("one -1", x.ask(-1, 0), BAD);
        Check.due("the trace stays", x.trace(0), 13);
        Check.due("the trace stays", x.trace(1), 10);
        Check.due("trace -1", x.trace(-1), NONE);
        Check.due("trace 16", x.trace(16), NONE);
        Check.due("trace, greatest", x.trace(Integer.MAX_VALUE), NONE);
        Check.tell(x, "k2,0,0;");
        Check.due("the trace stays behind another hall", x.trace(0), 13);
    }
}
