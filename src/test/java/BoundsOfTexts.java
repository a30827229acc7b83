import java.util.List;
import java.util.function.Supplier;

/** Boundaries of TEXTS: 'Terms' 1, promises 6 to 8. */
final class BoundsOfTexts {
    private static final int BAD = KeyDrift.BAD, STATE = KeyDrift.STATE, FULL = KeyDrift.FULL;
    private static final int MIN = Integer.MIN_VALUE, MAX = Integer.MAX_VALUE;
    private static final Supplier<KeyDrift> TOLD = Twins::told, BARE = Twins::bare;
    private static final Supplier<KeyDrift> FED = Twins::fed, BARE_FED = Twins::bareFed;
    private static final String SORTS = "pvscm";
    /** As many PIECES of as many strings, as many PUPILS as there is room for, in the longest words. */
    private static final String LONGEST = "k12,11,11;tabcdefgh;tijklabcd;tllllllll;taaaaaaaa;"
        + "p11,12;v10,11;s00,10;c09,01;m11,12;";

    private BoundsOfTexts() {
    }

    static void all() {
        howManyBytes();
        feedRefused();
        lettersOfTokens();
        figuresOfNumbers();
        orderOfParts();
        keysOfLaw();
        driftAndShiftOfLaw();
        stringsOfPiece();
        lengthsOfPiece();
        howManyPieces();
        sortsOfPupil();
        learntOfPupil();
        spanOfPupil();
        howManyPupils();
        asMuchAsThereIsRoomFor();
        hallInPlace();
        firstFault();
        leastFault();
        theEnd();
        noNumberAsTold();
        noRoom();
        tapeIsEmptyThen();
        faultLeavesAll();
        latestFault();
    }

    private static void reads(String text, int pieces, int pupils) {
        KeyDrift x = new KeyDrift();
        Check.due("hall of " + text, Check.tell(x, text), pupils);
        Check.due("pieces of " + text, x.count(4), pieces);
        Check.due("pupils of " + text, x.count(5), pupils);
        Check.due("fault of " + text, x.fault(), 0);
    }

    private static void faulty(String text, int number, int place) {
        KeyDrift x = new KeyDrift();
        Check.due("hall of " + text, Check.tell(x, text), -1000100 - place);
        Check.due("fault of " + text, x.fault(), number);
        Check.due("keys behind " + text, x.count(1), 0);
    }

    private static void howManyBytes() {
        Document.says("Terms 1", "TEXTS: THE TAPE has at most 120 bytes, that come one by one");
        Document.says("Promise 6", "A byte (0 to 255) comes behind the tape: how many it has.");
        KeyDrift x = new KeyDrift();
        Check.due("none", x.count(8), 0);
        for (int i = 1; i <= 120; i++) {
            Check.due("feed", x.feed(i % 2 == 0 ? 0 : 255), i);
            Check.due("bytes", x.count(8), i);
        }
        Check.due("the 121st", x.feed('k'), FULL);
        Check.due("bytes", x.count(8), 120);
        for (int letter = 0; letter <= 255; letter++) {
            KeyDrift y = new KeyDrift();
            Check.due("feed of " + letter, y.feed(letter), 1);
        }
    }

    private static void feedRefused() {
        Document.says("Promise 6", "BAD; FULL.");
        for (int letter : new int[] {MIN, -1, 256, 256 + 'k', MAX}) {
            Twins.refused(TOLD, "feed of " + letter, BAD, x -> x.feed(letter));
            Twins.refused(BARE, "feed of " + letter, BAD, x -> x.feed(letter));
            Twins.refused(FED, "feed of " + letter + ", FULL too", BAD, x -> x.feed(letter));
        }
        for (int letter : new int[] {0, 'k', 255}) {
            Twins.refused(FED, "feed of " + letter, FULL, x -> x.feed(letter));
            Twins.refused(BARE_FED, "feed of " + letter, FULL, x -> x.feed(letter));
        }
    }

    private static boolean isOfToken(int letter) {
        return letter >= 'a' && letter <= 'z' || letter >= '0' && letter <= '9' || letter == ',' || letter == ';';
    }

    /** Each other byte is no TOKEN wherever it stands: between any two, and in place of any. */
    private static void lettersOfTokens() {
        Document.says("Terms 1", "TOKENS: letters a to z (each by itself), NUMBERS (figures, 2 at most), SIGNS , "
            + "and ; nothing else.");
        String text = "k7,2,3;tag;p3,4;m0,1;";
        reads(text, 1, 2);
        for (int letter = 0; letter <= 255; letter++) {
            for (int at = 0; at <= text.length() && !isOfToken(letter); at++) {
                faulty(text.substring(0, at) + (char) letter + text.substring(at), 1, at);
            }
            for (int at = 0; at < text.length() && !isOfToken(letter); at++) {
                faulty(text.substring(0, at) + (char) letter + text.substring(at + 1), 1, at);
            }
        }
        for (int letter = 0; letter <= 255; letter++) {
            if (letter != 'k') {
                faulty((char) letter + "7,2,3;", 1, 0);
            }
            if (letter != 't' && SORTS.indexOf(letter) < 0) {
                faulty("k7,2,3;" + (char) letter, 1, 7);
            }
            if (letter != ',' && (letter < '0' || letter > '9')) {
                faulty("k7" + (char) letter + "2,3;", 1, 2);
                faulty("k7,2,3;p6" + (char) letter + "1;", 1, 9);
            }
            if (letter != ';' && (letter < '0' || letter > '9')) {
                faulty("k7,2,3" + (char) letter, 1, 6);
                faulty("k7,2,3;p6,1" + (char) letter, 1, 11);
            }
            if (letter < '0' || letter > '9') {
                faulty("k" + (char) letter + "7,2,3;", 1, 1);
                faulty("k7," + (char) letter + "2,3;", 1, 3);
                faulty("k7,2," + (char) letter + "3;", 1, 5);
                faulty("k7,2,3;p" + (char) letter + "6,1;", 1, 8);
                faulty("k7,2,3;p6," + (char) letter + "1;", 1, 10);
            }
        }
    }

    private static void figuresOfNumbers() {
        Document.says("Terms 1", "1 it cannot stand there, or is none (a run of three figures, at its first;");
        reads("k02,00,01;p00,01;", 0, 1);
        reads("k2,0,1;p0,1;", 0, 1);
        for (String run : new String[] {"000", "001", "002", "012", "123", "999", "0002", "12345", "0000000000"}) {
            faulty("k" + run + ",0,0;", 1, 1);
            faulty("k12," + run + ",0;", 1, 4);
            faulty("k12,0," + run + ";", 1, 6);
            faulty("k12,0,0;" + run, 1, 8);
            faulty("k12,0,0;t" + run, 1, 9);
            faulty("k12,0,0;ta" + run, 1, 10);
            faulty("k12,0,0;p" + run + ",1;", 1, 9);
            faulty("k12,0,0;p0," + run + ";", 1, 11);
            faulty("k12,0,0;p0,1;" + run, 1, 13);
        }
        faulty("k123", 1, 1);
        faulty("123", 1, 0);
    }

    private static void orderOfParts() {
        Document.says("Terms 1", "hall: law { piece } { pupil }.");
        reads("k2,0,0;", 0, 0);
        reads("k2,0,0;ta;", 1, 0);
        reads("k2,0,0;p0,1;", 0, 1);
        reads("k2,0,0;ta;tb;p0,1;m1,1;", 2, 2);
        faulty("", 1, 0);
        faulty("ta;", 1, 0);
        faulty("p0,1;", 1, 0);
        faulty("k2,0,0;k2,0,0;", 1, 7);
        faulty("k2,0,0;ta;k2,0,0;", 1, 10);
        faulty("k2,0,0;p0,1;k2,0,0;", 1, 12);
        faulty("k2,0,0;p0,1;ta;", 1, 12);
        faulty("k2,0,0;ta;p0,1;ta;", 1, 15);
        faulty("k2,0,0;,", 1, 7);
        faulty("k2,0,0;;", 1, 7);
        faulty("k2,0,0;ta;;", 1, 10);
        faulty("k2,0,0;p0,1;;", 1, 12);
    }

    private static void keysOfLaw() {
        Document.says("Terms 1", "law: k KEYS , DRIFT , SHIFT ; (2 to 12;");
        for (int keys = 0; keys <= 99; keys++) {
            for (String told : new String[] {"" + keys, "" + keys / 10 + keys % 10}) {
                KeyDrift x = new KeyDrift();
                boolean isTaken = keys >= 2 && keys <= 12;
                Check.due("KEYS " + told, Check.tell(x, "k" + told + ",0,0;"), isTaken ? 0 : -1000101);
                Check.due("KEYS then", x.count(1), isTaken ? keys : 0);
                Check.due("fault", x.fault(), isTaken ? 0 : 2);
            }
        }
    }

    private static void driftAndShiftOfLaw() {
        Document.says("Terms 1", "below KEYS each).");
        for (int keys = 2; keys <= 12; keys++) {
            for (int value = 0; value <= 99; value++) {
                String law = "k" + keys + ",";
                KeyDrift x = new KeyDrift();
                Check.due("DRIFT " + value, Check.tell(x, law + value + ",0;"), value < keys ? 0 : -1000100 - law.length());
                Check.due("DRIFT then", x.count(2), value < keys ? value : 0);
                Check.due("fault", x.fault(), value < keys ? 0 : 2);
                KeyDrift y = new KeyDrift();
                law = law + (keys - 1) + ",";
                Check.due("SHIFT " + value, Check.tell(y, law + value + ";"), value < keys ? 0 : -1000100 - law.length());
                Check.due("SHIFT then", y.count(3), value < keys ? value : 0);
                Check.due("fault", y.fault(), value < keys ? 0 : 2);
            }
        }
    }

    private static void stringsOfPiece() {
        Document.says("Terms 1", "of a, b, ..: strings 0, 1, .., below KEYS; other letters,");
        for (int keys = 2; keys <= 12; keys++) {
            String law = "k" + keys + ",0,0;";
            for (char letter = 'a'; letter <= 'z'; letter++) {
                boolean isTaken = letter - 'a' < keys;
                KeyDrift x = new KeyDrift();
                int answer = Check.tell(x, law + "ta" + letter + ";");
                Check.due("string " + letter + " of " + law, answer, isTaken ? 0 : -1000102 - law.length());
                Check.due("string then", x.piece(0, 1), isTaken ? letter - 'a' : BAD);
                Check.due("fault", x.fault(), isTaken ? 0 : 1);
                if (!isTaken) {
                    faulty(law + "t" + letter + ";", 1, law.length() + 1);
                }
            }
        }
        reads("k12,0,0;tkc;c0,1;", 1, 1);
        faulty("k12,0,0;tt;", 1, 9);
        faulty("k12,0,0;tatb;", 1, 10);
    }

    private static void lengthsOfPiece() {
        Document.says("Terms 1", "piece: t letters ; (1 to 8 ");
        Document.says("Terms 1", "a ninth one can not stand there;");
        faulty("k12,0,0;t;", 1, 9);
        String letters = "lkjihgfedcba";
        for (int n = 1; n <= 8; n++) {
            KeyDrift x = Check.hall("k12,0,0;t" + letters.substring(0, n) + ";");
            Check.due("how many", x.piece(0, -1), n);
            for (int k = 0; k < n; k++) {
                Check.due("string", x.piece(0, k), 11 - k);
            }
            Check.due("behind the last", x.piece(0, n), KeyDrift.NONE);
        }
        for (int n = 9; n <= 12; n++) {
            faulty("k12,0,0;t" + letters.substring(0, n) + ";", 1, 17);
        }
        faulty("k12,0,0;taaaaaaaaz;", 1, 17);
        faulty("k12,0,0;taaaaaaaa,", 1, 17);
        faulty("k12,0,0;taaaaaaaa1", 1, 17);
    }

    private static void howManyPieces() {
        Document.says("Terms 1", "PIECES 0 .. 3, 4 at most).");
        String text = "k2,0,0;";
        for (int n = 0; n <= 4; n++) {
            reads(text, n, 0);
            reads(text + "p0,1;", n, 1);
            KeyDrift x = Check.hall(text);
            Check.due("the last piece", x.piece(n - 1, 0), n == 0 ? BAD : 0);
            Check.due("behind the last", x.piece(n, 0), BAD);
            text = text + "ta;";
        }
        faulty(text, 3, 19);
        faulty(text + "ta;p0,1;", 3, 19);
    }

    private static void sortsOfPupil() {
        Document.says("Terms 1", "pupil: SORT LEARNT , SPAN ; (SORT: p a player, v one who plays ahead, s a "
            + "shamed one, c a carrier, m a cat;");
        for (char letter = 'a'; letter <= 'z'; letter++) {
            int kind = SORTS.indexOf(letter) + 1;
            KeyDrift x = new KeyDrift();
            int answer = Check.tell(x, "k2,0,0;ta;" + letter + "1,2;");
            if (letter == 't') {
                Check.due("a piece", answer, -1000111);
            } else {
                Check.due("sort " + letter, answer, kind > 0 ? 1 : -1000110);
                Check.due("kind", x.kind(0), kind > 0 ? kind : BAD);
                Check.due("fault", x.fault(), kind > 0 ? 0 : 1);
            }
        }
    }

    private static void learntOfPupil() {
        Document.says("Terms 1", "below KEYS; 1 to 12; PUPILS");
        for (int keys = 2; keys <= 12; keys++) {
            for (int sort = 0; sort < 5; sort++) {
                for (int value = 0; value <= 99; value += value <= 13 ? 1 : 43) {
                    String begin = "k" + keys + ",0,0;" + SORTS.charAt(sort);
                    boolean isTaken = value < keys;
                    KeyDrift x = new KeyDrift();
                    int answer = Check.tell(x, begin + value + ",1;");
                    Check.due("LEARNT " + begin + value, answer, isTaken ? 1 : -1000100 - begin.length());
                    Check.due("LEARNT then", x.pupil(0, 0), isTaken ? value : BAD);
                    Check.due("fault", x.fault(), isTaken ? 0 : 2);
                }
            }
        }
    }

    private static void spanOfPupil() {
        Document.says("Terms 1", "below KEYS; 1 to 12; PUPILS");
        for (int sort = 0; sort < 5; sort++) {
            for (int value = 0; value <= 99; value++) {
                for (String told : new String[] {"" + value, "" + value / 10 + value % 10}) {
                    boolean isTaken = value >= 1 && value <= 12;
                    KeyDrift x = new KeyDrift();
                    int answer = Check.tell(x, "k2,0,0;" + SORTS.charAt(sort) + "0," + told + ";");
                    Check.due("SPAN " + told, answer, isTaken ? 1 : -1000110);
                    Check.due("SPAN then", x.pupil(0, 1), isTaken ? value : BAD);
                    Check.due("fault", x.fault(), isTaken ? 0 : 2);
                }
            }
        }
    }

    private static void howManyPupils() {
        Document.says("Terms 1", "PUPILS 0 .. 4, 5 at most).");
        for (int sort = 0; sort < 5; sort++) {
            String text = "k2,0,0;";
            for (int n = 0; n <= 5; n++) {
                reads(text, 0, n);
                KeyDrift x = Check.hall(text);
                Check.due("the last pupil", x.kind(n - 1), n == 0 ? BAD : sort + 1);
                Check.due("behind the last", x.kind(n), BAD);
                text = text + SORTS.charAt(sort) + "0,1;";
            }
            faulty(text, 3, 32);
            faulty(text + text.substring(7), 3, 32);
        }
    }

    private static void asMuchAsThereIsRoomFor() {
        Document.says("Terms 1", "THE TAPE has at most 120 bytes");
        KeyDrift x = new KeyDrift();
        Check.due("hall", Check.tell(x, LONGEST), 5);
        int[] wanted = {0, 12, 11, 11, 4, 5, 0, 0, 0};
        for (int what = 0; what < wanted.length; what++) {
            Check.due("count " + what, x.count(what), wanted[what]);
        }
        int[][] strings = {{0, 1, 2, 3, 4, 5, 6, 7}, {8, 9, 10, 11, 0, 1, 2, 3}, {11, 11, 11, 11, 11, 11, 11, 11},
            {0, 0, 0, 0, 0, 0, 0, 0}};
        for (int piece = 0; piece < 4; piece++) {
            Check.due("length", x.piece(piece, -1), 8);
            for (int k = 0; k < 8; k++) {
                Check.due("string", x.piece(piece, k), strings[piece][k]);
            }
        }
        int[] learnt = {11, 10, 0, 9, 11};
        int[] spans = {12, 11, 10, 1, 12};
        for (int one = 0; one < 5; one++) {
            Check.due("kind", x.kind(one), one + 1);
            Check.due("learnt", x.pupil(one, 0), learnt[one]);
            Check.due("span", x.pupil(one, 1), spans[one]);
        }
        String rest = "p".repeat(120 - LONGEST.length());
        faulty(LONGEST + rest, 3, LONGEST.length());
        faulty(LONGEST + rest.replace('p', 't'), 1, LONGEST.length());
        faulty(LONGEST + rest.replace('p', '1'), 1, LONGEST.length());
    }

    private static void hallInPlace() {
        Document.says("Terms 1", "A HALL that is read stands in place of the one before (none at first): NIGHT "
            + "0; no ACT can be undone.");
        KeyDrift x = Check.hall(LONGEST);
        x.nights(24);
        x.learn(0);
        x.image(0);
        Check.due("a smaller one", Check.tell(x, "k2,0,1;"), 0);
        int[] wanted = {0, 2, 0, 1, 0, 0, 0, 0, 0};
        for (int what = 0; what < wanted.length; what++) {
            Check.due("count " + what, x.count(what), wanted[what]);
        }
        Check.due("undo", x.undo(), STATE);
        Check.due("no piece", x.piece(0, -1), BAD);
        Check.due("no pupil", x.kind(0), BAD);
        x.tune();
        Check.due("an act of the new one", x.count(7), 1);
        Check.due("the same once more", Check.tell(x, "k2,0,1;"), 0);
        Check.due("shift", x.count(3), 1);
        Check.due("undo", x.undo(), STATE);
        Check.due("a greater one", Check.tell(x, LONGEST), 5);
        Check.due("learnt is as told", x.pupil(0, 0), 11);
        Check.due("night", x.count(6), 0);
    }

    private static void firstFault() {
        Document.says("Terms 1", "FAULTS, the first TOKEN that has one (its first byte)");
        faulty("k13,99,999;x", 2, 1);
        faulty("k12,12,999;x", 2, 4);
        faulty("k12,11,12;x", 2, 7);
        faulty("k12,11,011;x", 1, 7);
        faulty("k12,11,11;tm;p99,99;", 1, 11);
        faulty("k12,11,11;tl;p12,99;", 2, 14);
        faulty("k12,11,11;tl;p11,13;;", 2, 17);
        faulty("k12,11,11;tl;p11,12;;", 1, 20);
        faulty("kk", 1, 1);
        faulty("k99 ", 2, 1);
        faulty("k12 99", 1, 3);
    }

    private static void leastFault() {
        Document.says("Terms 1", "of one TOKEN the least:");
        // 1 and 2: a run of figures that is no NUMBER, though what it tells would be too great, too.
        faulty("k999,0,0;", 1, 1);
        faulty("k2,999,0;", 1, 3);
        faulty("k2,0,0;p0,999;", 1, 10);
        // 1 and 2: a NUMBER where none can stand.
        faulty("99", 1, 0);
        faulty("k2,0,0;99", 1, 7);
        faulty("k2,0,0;t99", 1, 8);
        // 1 and 3: a fifth PIECE, where no PIECE can stand any more.
        faulty("k2,0,0;ta;ta;ta;ta;p0,1;ta;", 1, 24);
        faulty("k2,0,0;ta;ta;ta;ta;p0,1;p0,1;p0,1;p0,1;p0,1;ta;", 1, 44);
        // A PUPIL's letter within a PIECE, or where a sign is due, is no PUPIL more.
        faulty("k2,0,0;p0,1;p0,1;p0,1;p0,1;p0,1p", 1, 31);
        faulty("k2,0,0;ta;ta;ta;tat", 1, 18);
    }

    private static void theEnd() {
        Document.says("Terms 1", "the end: how many bytes there are);");
        String text = "k7,2,3;tag;tb;p3,4;m0,1;";
        for (int n = 0; n <= text.length(); n++) {
            String begin = text.substring(0, n);
            if (begin.endsWith(";")) {
                KeyDrift x = new KeyDrift();
                Check.holds("hall of " + begin, Check.tell(x, begin) >= 0);
            } else {
                faulty(begin, 1, n);
            }
        }
        faulty("k12,11,1", 1, 8);
        faulty("k12,11,11;tabcdefgh", 1, 19);
        faulty("k12,11,11;p11,12", 1, 16);
    }

    private static void noNumberAsTold() {
        Document.says("Terms 1", "2 a NUMBER that is not as told;");
        faulty("k1,0,0;", 2, 1);
        faulty("k13,0,0;", 2, 1);
        faulty("k1", 2, 1);
        faulty("k5,5", 2, 3);
        faulty("k5,4,5", 2, 5);
        faulty("k5,4,4;s5", 2, 8);
        faulty("k5,4,4;s4,0", 2, 10);
        faulty("k5,4,4;s4,13", 2, 10);
    }

    private static void noRoom() {
        Document.says("Terms 1", "3 a piece, a pupil more than there is room for (its letter).");
        String pieces = "k2,0,0;ta;ta;ta;ta;";
        for (String rest : new String[] {"t", "t;", "tz", "ta;", "t99", "t ", "taaaaaaaaa;"}) {
            faulty(pieces + rest, 3, 19);
        }
        String pupils = "p0,1;v0,1;s0,1;c0,1;m0,1;";
        for (int sort = 0; sort < 5; sort++) {
            for (String rest : new String[] {"", "0,1;", "9,1;", ";", "999", " "}) {
                faulty("k2,0,0;" + pupils + SORTS.charAt(sort) + rest, 3, 32);
                faulty(pieces + pupils + SORTS.charAt(sort) + rest, 3, 44);
            }
        }
    }

    private static void tapeIsEmptyThen() {
        Document.says("Promise 7", "The tape, empty then, is read: how many PUPILS there are.");
        KeyDrift x = new KeyDrift();
        Check.due("none", Check.tell(x, "k2,0,0;"), 0);
        Check.due("empty", x.count(8), 0);
        Check.due("five", Check.tell(x, LONGEST), 5);
        Check.due("empty", x.count(8), 0);
        Check.due("nothing is on it", x.hall(), -1000100);
        Check.due("a fault", Check.tell(x, "k2,0,"), -1000105);
        Check.due("empty", x.count(8), 0);
        Check.due("what is fed comes alone", x.feed('k'), 1);
        for (int i = 2; i <= 120; i++) {
            Check.due("feed", x.feed('k'), i);
        }
        Check.due("full", x.feed('k'), FULL);
        Check.due("a full tape", x.hall(), -1000101);
        Check.due("empty", x.count(8), 0);
        Check.due("feed again", x.feed('k'), 1);
    }

    private static void faultLeavesAll() {
        Document.says("Promise 7", "-1000100 less the place of a FAULT: all stays.");
        for (Supplier<KeyDrift> maker : List.of(TOLD, BARE)) {
            Twins.faulty(maker, "x", 1, 7);
            Twins.faulty(maker, "t", 1, 8);
            Twins.faulty(maker, "tgggg;tfedc;tz", 1, 20);
            Twins.faulty(maker, "ta;tb;tc;td;ta;", 3, 19);
            Twins.faulty(maker, "tg;m6,9;m6,9;p7", 2, 21);
            Twins.faulty(maker, "tg;m6,9;m6,9;c5,8;v4,7;s3,6;s2,5;", 3, 35);
            Twins.faulty(maker, "tg;m6,9;m6,9;c5,8;v4,7;s3,6;;", 1, 35);
        }
        KeyDrift x = Check.hall(Check.FIVE);
        x.nights(1);
        Check.due("a fault of KEYS", Check.tell(x, "k13,0,0;"), -1000101);
        Check.due("a fault of DRIFT", Check.tell(x, "k9,9,0;"), -1000103);
        Check.due("a fault of SHIFT", Check.tell(x, "k9,8,9;"), -1000105);
        Check.due("a law without an end", Check.tell(x, "k9,8,7"), -1000106);
        int[] wanted = {0, 7, 2, 5, 3, 5, 1, 1, 0};
        for (int what = 0; what < wanted.length; what++) {
            Check.due("count " + what, x.count(what), wanted[what]);
        }
    }

    private static void latestFault() {
        Document.says("Promise 8", "The number of the latest FAULT; 0 before one.");
        KeyDrift x = new KeyDrift();
        Check.due("before one", x.fault(), 0);
        Check.tell(x, "k2,0,0;");
        Check.due("behind a HALL without", x.fault(), 0);
        Check.tell(x, "k2,0,0;ta;ta;ta;ta;t");
        Check.due("3", x.fault(), 3);
        Check.tell(x, "k2,0,0;");
        Check.due("3 yet", x.fault(), 3);
        Check.tell(x, "k1");
        Check.due("2", x.fault(), 2);
        x.feed(256);
        x.nights(0);
        x.row(0, 0, -1);
        Check.due("what else is refused is no FAULT", x.fault(), 2);
        x.hall();
        Check.due("1", x.fault(), 1);
        Check.due("asked again", x.fault(), 1);
    }
}
