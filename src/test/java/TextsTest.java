/** Promises 6 (feed), 7 (hall), 8 (fault), and what a HALL that is read stands for. */
public final class TextsTest {
    private static final int BAD = KeyDrift.BAD, STATE = KeyDrift.STATE, FULL = KeyDrift.FULL;

    public static void main(String[] args) {
        feed();
        laws();
        pieces();
        pupils();
        tokens();
        hallStands();
        Check.end();
    }

    private static void feed() {
        KeyDrift x = new KeyDrift();
        Check.due("feed -1", x.feed(-1), BAD);
        Check.due("feed 256", x.feed(256), BAD);
        Check.due("feed 0", x.feed(0), 1);
        Check.due("feed 255", x.feed(255), 2);
        for (int i = 3; i <= 120; i++) {
            Check.due("feed", x.feed('k'), i);
        }
        Check.due("full", x.feed('k'), FULL);
        Check.due("BAD ahead of FULL", x.feed(256), BAD);
        Check.due("bytes", x.count(8), 120);
        Check.due("hall", x.hall(), -1000100);
        Check.due("empty then", x.count(8), 0);
        Check.due("feed anew", x.feed('k'), 1);
    }

    private static void fault(String text, int number, int place) {
        KeyDrift x = new KeyDrift();
        Check.due("hall of " + text, Check.tell(x, text), -1000100 - place);
        Check.due("fault of " + text, x.fault(), number);
        Check.due("keys behind " + text, x.count(1), 0);
        Check.due("tape behind " + text, x.count(8), 0);
    }

    private static void reads(String text, int pieces, int pupils) {
        KeyDrift x = new KeyDrift();
        Check.due("hall of " + text, Check.tell(x, text), pupils);
        Check.due("pieces of " + text, x.count(4), pieces);
        Check.due("pupils of " + text, x.count(5), pupils);
        Check.due("fault of " + text, x.fault(), 0);
    }

    private static void laws() {
        reads("k2,0,0;", 0, 0);
        reads("k12,11,11;", 0, 0);
        reads("k02,01,00;", 0, 0);
        fault("", 1, 0);
        fault("t", 1, 0);
        fault("2,0,0;", 1, 0);
        fault("K2,0,0;", 1, 0);
        fault("k", 1, 1);
        fault("k,", 1, 1);
        fault("k1,0,0;", 2, 1);
        fault("k13,0,0;", 2, 1);
        fault("k99,99,0;", 2, 1);
        fault("k002,0,0;", 1, 1);
        fault("k2", 1, 2);
        fault("k2;0,0;", 1, 2);
        fault("k2,", 1, 3);
        fault("k2,2,0;", 2, 3);
        fault("k12,12,0;", 2, 4);
        fault("k2,a,0;", 1, 3);
        fault("k2,0;", 1, 4);
        fault("k2,0,2;", 2, 5);
        fault("k2,0,0", 1, 6);
        fault("k2,0,0,", 1, 6);
        fault("k2,0,111;", 1, 5);
    }

    private static void pieces() {
        reads("k2,0,0;tabababab;", 1, 0);
        reads("k12,0,0;tl;tl;tl;tl;", 4, 0);
        fault("k2,0,0;t", 1, 8);
        fault("k2,0,0;t;", 1, 8);
        fault("k2,0,0;tc;", 1, 8);
        fault("k2,0,0;tac;", 1, 9);
        fault("k2,0,0;ta1;", 1, 9);
        fault("k2,0,0;ta,", 1, 9);
        fault("k12,0,0;tm;", 1, 9);
        fault("k2,0,0;taaaaaaaaa;", 1, 16);
        fault("k2,0,0;taaaaaaaa", 1, 16);
        fault("k2,0,0;ta;ta;ta;ta;ta;", 3, 19);
        fault("k2,0,0;ta;ta;ta;ta;t", 3, 19);
        fault("k2,0,0;ta;x", 1, 10);
        KeyDrift x = Check.hall("k12,0,0;tal;tbcdefghi;");
        int[] second = {1, 2, 3, 4, 5, 6, 7, 8};
        Check.due("length 0", x.piece(0, -1), 2);
        Check.due("string a", x.piece(0, 0), 0);
        Check.due("string l", x.piece(0, 1), 11);
        for (int k = 0; k < 8; k++) {
            Check.due("string " + k, x.piece(1, k), second[k]);
        }
    }

    private static void pupils() {
        reads("k2,0,0;p0,1;v1,12;s0,1;c1,01;m00,1;", 0, 5);
        reads("k2,0,0;ta;p0,1;", 1, 1);
        fault("k2,0,0;p", 1, 8);
        fault("k2,0,0;p,", 1, 8);
        fault("k2,0,0;p2,1;", 2, 8);
        fault("k2,0,0;p000,1;", 1, 8);
        fault("k2,0,0;p0;", 1, 9);
        fault("k2,0,0;p0,0;", 2, 10);
        fault("k2,0,0;p0,13;", 2, 10);
        fault("k2,0,0;p0,;", 1, 10);
        fault("k2,0,0;p0,1", 1, 11);
        fault("k2,0,0;p0,1,", 1, 11);
        fault("k2,0,0;a0,1;", 1, 7);
        fault("k2,0,0;p0,1;ta;", 1, 12);
        fault("k2,0,0;p0,1;p0,1;p0,1;p0,1;p0,1;m0,1;", 3, 32);
        fault("k2,0,0;p0,1;p0,1;p0,1;p0,1;p0,1;s", 3, 32);
        fault("k2,0,0;p0,1;p0,1;p0,1;p0,1;p0,1;t", 1, 32);
        fault("k2,0,0;ta;ta;ta;ta;p0,1;ta;", 1, 24);
        fault("k2,0,0;p0,1;k2,0,0;", 1, 12);
    }

    private static void tokens() {
        fault("k2,0,0; ", 1, 7);
        fault(" k2,0,0;", 1, 0);
        fault("k 2,0,0;", 1, 1);
        fault("k2,0,0;;", 1, 7);
        fault("k2,0,0;7", 1, 7);
        fault("k2,0,0;t\u00e9;", 1, 8);
        fault("k2,0,0;\u0000", 1, 7);
        fault("k1234,0,0;", 1, 1);
        fault("k7/,0,0;", 1, 2);
        fault("k7:,0,0;", 1, 2);
        fault("k7,0,0;t`;", 1, 8);
        fault("k7,0,0;p6,7", 1, 11);
    }

    private static void hallStands() {
        KeyDrift x = Check.hall("k5,1,4;tab;p2,3;");
        x.nights(3);
        x.learn(0);
        Check.due("a fault", Check.tell(x, "k5,1,5;"), -1000105);
        Check.due("fault", x.fault(), 2);
        Check.due("all stays: night", x.count(6), 3);
        Check.due("all stays: shift", x.count(3), 2);
        Check.due("all stays: acts", x.count(7), 4);
        Check.due("all stays: pieces", x.count(4), 1);
        Check.due("a late fault", Check.tell(x, "k9,2,3;tghi;s7,7;x"), -1000117);
        Check.due("keys", x.count(1), 5);
        Check.due("length", x.piece(0, -1), 2);
        Check.due("kind", x.kind(0), 1);
        Check.due("another", Check.tell(x, "k9,2,3;tghi;s7,7;"), 1);
        Check.due("the latest fault", x.fault(), 1);
        Check.due("night", x.count(6), 0);
        Check.due("acts", x.count(7), 0);
        Check.due("undo", x.undo(), STATE);
        Check.due("keys", x.count(1), 9);
        Check.due("drift", x.count(2), 2);
        Check.due("shift", x.count(3), 3);
        Check.due("kind", x.kind(0), 3);
        Check.due("string", x.piece(0, 2), 8);
        Check.due("fewer", Check.tell(x, "k3,0,0;"), 0);
        Check.due("no piece", x.piece(0, 0), BAD);
        Check.due("no pupil", x.pupil(0, 0), BAD);
    }
}
