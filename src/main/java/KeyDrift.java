import java.util.Arrays;

/**
 * A piano whose keyboard moves under its strings each night, with its pieces and pupils.
 * All arrays are made with the object and used again, so no call makes a new one.
 */
public final class KeyDrift {
    public static final int NONE = -1000000, BAD = -1000001, STATE = -1000002, FULL = -1000003;

    private static final int FINDINGS = -1000010, FAULTS = -1000100;
    private static final int NULL = 1, PLACE = 2, KIND = 3, SIZE = 4, STORE = 5;
    private static final int PUPIL = 0, PLAYER = 1, AHEAD = 2, SHAMED = 3, CARRIER = 4, CAT = 5;
    private static final int ROWS = 8, IMAGES = 2;
    private static final int MOST_NIGHTS_AT_ONCE = 24, LAST_NIGHT = 999, MOST_THUNDER = 11;
    private static final int ALL_TOLD_NIGHTS = 16777215;

    private final Row[] rows;
    private final Tape tape;
    private final Hall now;
    private final Hall spare;
    private final Hall[] images;
    private final Acts acts;
    private final Foretold foretold;
    private final Asked asked;
    private int latestFinding;

    public KeyDrift() {
        rows = new Row[ROWS];
        for (int i = 0; i < ROWS; i++) {
            rows[i] = new Row();
        }
        images = new Hall[IMAGES];
        for (int i = 0; i < IMAGES; i++) {
            images[i] = new Hall();
        }
        tape = new Tape();
        now = new Hall();
        spare = new Hall();
        acts = new Acts();
        foretold = new Foretold(now);
        asked = new Asked();
    }

    // ---- rows

    public int row(int row, int lane, int n) {
        if (!isRow(row) || !Row.isLane(lane) || n > Row.MOST_ITEMS) {
            return BAD;
        }
        if (n < 0) {
            return found(SIZE);
        }
        rows[row].begin(lane, n);
        return fine(n);
    }

    public int set(int row, int i, int v) {
        if (!isRow(row)) {
            return BAD;
        }
        if (rows[row].isMissing()) {
            return found(NULL);
        }
        if (!rows[row].hasPlaces(i, 1)) {
            return found(PLACE);
        }
        return fine(rows[row].put(i, v));
    }

    public int copy(int a, int i, int b, int j, int n) {
        if (!isRow(a) || !isRow(b)) {
            return BAD;
        }
        if (rows[a].isMissing() || rows[b].isMissing()) {
            return found(NULL);
        }
        if (rows[a].lane != rows[b].lane) {
            return found(STORE);
        }
        if (!rows[a].hasPlaces(i, n) || !rows[b].hasPlaces(j, n)) {
            return found(PLACE);
        }
        System.arraycopy(rows[a].items, i, rows[b].items, j, n);
        return fine(n);
    }

    public int drop(int row) {
        if (!isRow(row)) {
            return BAD;
        }
        if (rows[row].isMissing()) {
            return found(NULL);
        }
        int had = rows[row].length;
        rows[row].lose();
        return fine(had);
    }

    // ---- what is told

    public int feed(int letter) {
        if (letter < 0 || letter > 255) {
            return BAD;
        }
        if (tape.isFull()) {
            return FULL;
        }
        return tape.append(letter);
    }

    public int hall() {
        boolean read = tape.readInto(spare);
        tape.clear();
        if (!read) {
            return FAULTS - tape.foundAt;
        }
        now.become(spare);
        acts.clear();
        return now.pupils;
    }

    public int fault() {
        return tape.latestFault;
    }

    public int undo() {
        if (acts.kept == 0) {
            return STATE;
        }
        acts.takeBack(now);
        return acts.kept;
    }

    // ---- what is done

    public int nights(int n) {
        if (!now.isTold()) {
            return STATE;
        }
        if (n < 1 || n > MOST_NIGHTS_AT_ONCE) {
            return BAD;
        }
        if (now.night + n > LAST_NIGHT) {
            return FULL;
        }
        for (int i = 0; i < n; i++) {
            acts.keep(Acts.NIGHT, 0, now.shift);
            now.night++;
            now.shift = now.shiftBehind(1);
        }
        return now.shift;
    }

    public int thunder(int by) {
        if (!now.isTold()) {
            return STATE;
        }
        if (by < 1 || by > MOST_THUNDER) {
            return BAD;
        }
        acts.keep(Acts.SHIFTING, 0, now.shift);
        now.shift = now.around(now.shift + by);
        return now.shift;
    }

    public int tune() {
        if (!now.isTold()) {
            return STATE;
        }
        int before = now.shift;
        acts.keep(Acts.SHIFTING, 0, before);
        now.shift = 0;
        return before;
    }

    public int learn(int pupil) {
        if (!now.hasPupil(pupil)) {
            return BAD;
        }
        int before = now.learnt[pupil];
        acts.keep(Acts.LESSON, pupil, before);
        now.learnt[pupil] = now.shift;
        return before;
    }

    public int piece(int piece, int k) {
        if (!now.hasPiece(piece) || k < -1) {
            return BAD;
        }
        if (k == -1) {
            return now.lengths[piece];
        }
        return k < now.lengths[piece] ? now.stringOf(piece, k) : NONE;
    }

    public int pupil(int pupil, int what) {
        if (!now.hasPupil(pupil)) {
            return BAD;
        }
        switch (what) {
            case 0: return now.learnt[pupil];
            case 1: return now.spans[pupil];
            case 2: return now.biasOf(pupil);
            case 3: return now.biasOf(pupil) == now.shift ? 1 : 0;
            default: return BAD;
        }
    }

    public int plays(int pupil, int piece, int what) {
        if (!now.hasPupil(pupil) || !now.hasPiece(piece)) {
            return BAD;
        }
        switch (what) {
            case 0: return now.reaches(pupil, piece) ? 1 : 0;
            case 1: return now.leastKey(now.biasOf(pupil), piece);
            case 2: return now.greatestKey(now.biasOf(pupil), piece);
            default: return BAD;
        }
    }

    public int heard(int pupil, int piece, int k) {
        if (!now.hasPupil(pupil) || !now.hasPiece(piece)) {
            return BAD;
        }
        if (k < 0 || k >= now.lengths[piece]) {
            return BAD;
        }
        return now.stringHeard(now.stringOf(piece, k), now.biasOf(pupil));
    }

    public int strike(int key) {
        if (!now.isTold()) {
            return STATE;
        }
        if (key < 0 || key >= now.keys) {
            return BAD;
        }
        return now.around(key + now.shift);
    }

    // ---- foretold

    public int soon(int pupil) {
        if (!now.hasPupil(pupil)) {
            return BAD;
        }
        return foretold.firstNightAt(now.biasOf(pupil));
    }

    public int together(int pupil, int other) {
        if (!now.hasPupil(pupil) || !now.hasPupil(other) || pupil == other) {
            return BAD;
        }
        // One SHIFT makes one BIAS right: two pupils of two BIASES are never right at once.
        if (now.biasOf(pupil) != now.biasOf(other)) {
            return NONE;
        }
        return foretold.firstNightAt(now.biasOf(pupil));
    }

    public int itself() {
        return now.isTold() ? foretold.firstNightAt(0) : STATE;
    }

    public int nightsOf(int pupil, int n) {
        if (!now.hasPupil(pupil) || n < 1 || n > Foretold.TOLD_NIGHTS) {
            return BAD;
        }
        return foretold.nightsAt(now.biasOf(pupil), n);
    }

    public int struck(int row, int i, int n, int lies) {
        if (!now.isTold()) {
            return STATE;
        }
        if (!isRow(row) || n < 1 || n > 12 || lies < 0 || lies > 1) {
            return BAD;
        }
        if (rows[row].isMissing()) {
            return found(NULL);
        }
        if (!rows[row].hasPlaces(i, 2 * n)) {
            return found(PLACE);
        }
        return fine(foretold.shiftsBy(rows[row].items, i, n, lies));
    }

    public int lessons(int nights, int what) {
        if (!now.isTold()) {
            return STATE;
        }
        if (nights < 0 || nights > ALL_TOLD_NIGHTS || what < 0 || what > 1) {
            return BAD;
        }
        int taught = foretold.fewestTaught(nights);
        if (taught == NONE) {
            return NONE;
        }
        return what == 0 ? Integer.bitCount(taught) : taught;
    }

    public int programme(int n, int k) {
        if (!now.isTold()) {
            return STATE;
        }
        if (n < 1 || n > Foretold.PROGRAMME_NIGHTS || k < -1 || k >= Hall.MOST_PIECES) {
            return BAD;
        }
        return k == -1 ? foretold.programmes(n) : foretold.nightOfPiece(n, k);
    }

    public int chords(int k) {
        if (!now.isTold()) {
            return STATE;
        }
        if (k < -1) {
            return BAD;
        }
        int all = foretold.chordCount();
        if (k == -1) {
            return all;
        }
        return k < all ? foretold.chordNumber(k) : NONE;
    }

    public int who(int pupil, int piece, int row, int i) {
        if (!now.hasPupil(pupil) || !now.hasPiece(piece) || !isRow(row)) {
            return BAD;
        }
        if (rows[row].isMissing()) {
            return found(NULL);
        }
        if (!rows[row].hasPlaces(i, now.lengths[piece])) {
            return found(PLACE);
        }
        return fine(foretold.kindsHeard(pupil, piece, rows[row].items, i));
    }

    public int tunings(int n, int t) {
        if (!now.isTold()) {
            return STATE;
        }
        if (n < 1 || n > 60 || t < 0 || t > 11) {
            return BAD;
        }
        return foretold.fewestTunings(n, t);
    }

    public int other(int drift, int shift) {
        if (!now.isTold()) {
            return STATE;
        }
        if (drift < 0 || drift >= now.keys || shift < 0 || shift >= now.keys) {
            return BAD;
        }
        return foretold.firstNightAlike(drift, shift);
    }

    public long thunderOdds(int pupil, int p, int n, int what) {
        if (!now.hasPupil(pupil) || p < 0 || p > 10) {
            return BAD;
        }
        if (n < 0 || n > 6 || what < 0 || what > 1) {
            return BAD;
        }
        long right = foretold.tenthsRight(now.biasOf(pupil), p, n);
        long all = Foretold.power(10, n);
        long shared = Foretold.divisorOfBoth(right, all);
        if (shared < 1) {
            shared = 1;
        }
        return what == 0 ? right / shared : all / shared;
    }

    public int drawn(int n, int seed, int what) {
        if (!now.isTold()) {
            return STATE;
        }
        if (n < 0 || n > 60 || seed < 1 || seed > 999999 || what < 0 || what > 1) {
            return BAD;
        }
        return foretold.nightsByDraws(n, seed, what == 1);
    }

    public int image(int k) {
        if (!isImage(k)) {
            return BAD;
        }
        if (!now.isTold()) {
            return STATE;
        }
        images[k].become(now);
        return 1;
    }

    public int restore(int k) {
        if (!isImage(k)) {
            return BAD;
        }
        if (!images[k].isTold()) {
            return STATE;
        }
        now.become(images[k]);
        acts.clear();
        return 1;
    }

    // ---- asked

    public int kind(int one) {
        return now.hasPupil(one) ? now.kinds[one] : BAD;
    }

    public int as(int one, int kind) {
        if (!now.hasPupil(one) || kind < PUPIL || kind > CAT) {
            return BAD;
        }
        return Asked.isOfKind(now.kinds[one], kind) ? fine(one) : found(KIND);
    }

    public int ask(int one, int what) {
        if (!now.hasPupil(one) || what < 0 || what > 1) {
            return BAD;
        }
        asked.begin(one, now.kinds[one], now.learnt[one], now.spans[one]);
        return what == 0 ? asked.sizeOfOne() : asked.markOfOne();
    }

    public int trace(int i) {
        return i >= 0 && i < asked.left ? asked.bodies[i] : NONE;
    }

    public int count(int what) {
        switch (what) {
            case 0: return rowsThere();
            case 1: return now.keys;
            case 2: return now.drift;
            case 3: return now.shift;
            case 4: return now.pieces;
            case 5: return now.pupils;
            case 6: return now.night;
            case 7: return acts.kept;
            case 8: return tape.size;
            default: return BAD;
        }
    }

    public int status() {
        return latestFinding;
    }

    private int found(int finding) {
        latestFinding = finding;
        return FINDINGS - finding;
    }

    private int fine(int answer) {
        latestFinding = 0;
        return answer;
    }

    private static boolean isRow(int row) {
        return row >= 0 && row < ROWS;
    }

    private static boolean isImage(int k) {
        return k >= 0 && k < IMAGES;
    }

    private int rowsThere() {
        int there = 0;
        for (int i = 0; i < ROWS; i++) {
            if (!rows[i].isMissing()) {
                there++;
            }
        }
        return there;
    }

    /** A ROW: ITEMS of a LANE, or missing. */
    private static final class Row {
        static final int MOST_ITEMS = 40;
        private static final int MISSING = -1, BYTES = 0, SHORTS = 1, INTS = 2;

        final int[] items = new int[MOST_ITEMS];
        int lane = MISSING;
        int length;

        static boolean isLane(int lane) {
            return lane >= BYTES && lane <= INTS;
        }

        boolean isMissing() {
            return lane == MISSING;
        }

        void begin(int newLane, int newLength) {
            Arrays.fill(items, 0);
            lane = newLane;
            length = newLength;
        }

        void lose() {
            lane = MISSING;
            length = 0;
        }

        // The length less n, not i and n: that sum could leave the ints.
        boolean hasPlaces(int i, int n) {
            return i >= 0 && n >= 0 && i <= length - n;
        }

        int put(int i, int v) {
            items[i] = lowestBits(v);
            return items[i];
        }

        private int lowestBits(int v) {
            if (lane == BYTES) {
                return (byte) v;
            }
            return lane == SHORTS ? (short) v : v;
        }
    }

    /**
     * THE TAPE, and how a HALL is read from it. Behind the first FAULT of a reading
     * nothing more is taken, so that the parts of a text are read without asking each time.
     */
    private static final class Tape {
        private static final int MOST_BYTES = 120, LONGEST_NUMBER = 2;
        private static final int MISPLACED = 1, WRONG_NUMBER = 2, NO_ROOM = 3;
        private static final int END = -1;

        private final int[] bytes = new int[MOST_BYTES];
        private int place;
        private int foundFault;
        int size;
        int foundAt;
        int latestFault;

        boolean isFull() {
            return size >= MOST_BYTES;
        }

        int append(int letter) {
            bytes[size] = letter;
            size++;
            return size;
        }

        void clear() {
            size = 0;
        }

        boolean readInto(Hall hall) {
            place = 0;
            foundFault = 0;
            readLaw(hall);
            readPieces(hall);
            readPupils(hall);
            if (foundFault == 0 && place < size) {
                refuse(MISPLACED);
            }
            return foundFault == 0;
        }

        private void readLaw(Hall hall) {
            takeByte('k');
            hall.keys = takeNumber(2, Hall.MOST_KEYS);
            takeByte(',');
            hall.drift = takeNumber(0, hall.keys - 1);
            takeByte(',');
            hall.shift = takeNumber(0, hall.keys - 1);
            takeByte(';');
            hall.night = 0;
        }

        private void readPieces(Hall hall) {
            hall.pieces = 0;
            for (int piece = 0; piece < Hall.MOST_PIECES && sees('t'); piece++) {
                takeByte('t');
                readStrings(hall, piece);
                takeByte(';');
                hall.pieces++;
            }
            if (sees('t')) {
                refuse(NO_ROOM);
            }
        }

        private void readStrings(Hall hall, int piece) {
            int length = 0;
            while (length < Hall.MOST_STRINGS && seesString(hall.keys)) {
                hall.strings[piece * Hall.MOST_STRINGS + length] = byteHere() - 'a';
                place++;
                length++;
            }
            if (length == 0) {
                refuse(MISPLACED);
            }
            hall.lengths[piece] = length;
        }

        private void readPupils(Hall hall) {
            hall.pupils = 0;
            for (int pupil = 0; pupil < Hall.MOST_PUPILS && seesSort(); pupil++) {
                hall.kinds[pupil] = kindOfSort(byteHere());
                place++;
                hall.learnt[pupil] = takeNumber(0, hall.keys - 1);
                takeByte(',');
                hall.spans[pupil] = takeNumber(1, Hall.MOST_SPAN);
                takeByte(';');
                hall.pupils++;
            }
            if (seesSort()) {
                refuse(NO_ROOM);
            }
        }

        private void takeByte(int wanted) {
            if (sees(wanted)) {
                place++;
            } else {
                refuse(MISPLACED);
            }
        }

        // Behind a FAULT the least number is taken: the HALL read is not used then.
        private int takeNumber(int least, int greatest) {
            int figures = figuresHere();
            if (foundFault != 0 || figures < 1 || figures > LONGEST_NUMBER) {
                refuse(MISPLACED);
                return least;
            }
            int value = 0;
            for (int i = 0; i < figures; i++) {
                value = value * 10 + byteAt(place + i) - '0';
            }
            if (value < least || value > greatest) {
                refuse(WRONG_NUMBER);
                return least;
            }
            place += figures;
            return value;
        }

        private boolean sees(int wanted) {
            return foundFault == 0 && byteHere() == wanted;
        }

        private boolean seesString(int keys) {
            int string = byteHere() - 'a';
            return foundFault == 0 && string >= 0 && string < keys;
        }

        private boolean seesSort() {
            return foundFault == 0 && kindOfSort(byteHere()) != PUPIL;
        }

        private static int kindOfSort(int letter) {
            switch (letter) {
                case 'p': return PLAYER;
                case 'v': return AHEAD;
                case 's': return SHAMED;
                case 'c': return CARRIER;
                case 'm': return CAT;
                default: return PUPIL;
            }
        }

        private int figuresHere() {
            int figures = 0;
            while (figures <= LONGEST_NUMBER && isFigure(byteAt(place + figures))) {
                figures++;
            }
            return figures;
        }

        private static boolean isFigure(int letter) {
            return letter >= '0' && letter <= '9';
        }

        private int byteHere() {
            return byteAt(place);
        }

        private int byteAt(int at) {
            return at >= 0 && at < size ? bytes[at] : END;
        }

        private void refuse(int fault) {
            if (foundFault == 0) {
                foundFault = fault;
                foundAt = place;
                latestFault = fault;
            }
        }
    }

    /** A HALL as it is told, and how its pupils play now. With 0 KEYS there is none. */
    private static final class Hall {
        static final int MOST_KEYS = 12, MOST_SPAN = 12;
        static final int MOST_PIECES = 4, MOST_STRINGS = 8, MOST_PUPILS = 5;

        final int[] lengths = new int[MOST_PIECES];
        final int[] strings = new int[MOST_PIECES * MOST_STRINGS];
        final int[] kinds = new int[MOST_PUPILS];
        final int[] learnt = new int[MOST_PUPILS];
        final int[] spans = new int[MOST_PUPILS];
        int keys;
        int drift;
        int shift;
        int night;
        int pieces;
        int pupils;

        boolean isTold() {
            return keys > 0;
        }

        boolean hasPiece(int piece) {
            return piece >= 0 && piece < pieces;
        }

        boolean hasPupil(int pupil) {
            return pupil >= 0 && pupil < pupils;
        }

        void become(Hall from) {
            keys = from.keys;
            drift = from.drift;
            shift = from.shift;
            night = from.night;
            pieces = from.pieces;
            pupils = from.pupils;
            System.arraycopy(from.lengths, 0, lengths, 0, MOST_PIECES);
            System.arraycopy(from.strings, 0, strings, 0, MOST_PIECES * MOST_STRINGS);
            System.arraycopy(from.kinds, 0, kinds, 0, MOST_PUPILS);
            System.arraycopy(from.learnt, 0, learnt, 0, MOST_PUPILS);
            System.arraycopy(from.spans, 0, spans, 0, MOST_PUPILS);
        }

        int around(int value) {
            if (keys <= 0) {
                return 0;
            }
            int rest = value % keys;
            return rest < 0 ? rest + keys : rest;
        }

        int shiftBehind(int nights) {
            return around(shift + nights * drift);
        }

        int stringOf(int piece, int k) {
            return strings[piece * MOST_STRINGS + k];
        }

        int biasOf(int pupil) {
            return biasAs(kinds[pupil], learnt[pupil]);
        }

        int biasAs(int kind, int lesson) {
            switch (kind) {
                case AHEAD: return around(lesson + 2 * drift);
                case SHAMED: return around(lesson - 2);
                case CARRIER: return around(-lesson);
                case CAT: return around(1 - lesson);
                default: return around(lesson);
            }
        }

        int stringHeard(int string, int bias) {
            return around(string - bias + shift);
        }

        boolean reaches(int pupil, int piece) {
            int bias = biasOf(pupil);
            return greatestKey(bias, piece) - leastKey(bias, piece) < spans[pupil];
        }

        int leastKey(int bias, int piece) {
            int least = keys;
            for (int k = 0; k < lengths[piece]; k++) {
                least = Math.min(least, around(stringOf(piece, k) - bias));
            }
            return least;
        }

        int greatestKey(int bias, int piece) {
            int greatest = 0;
            for (int k = 0; k < lengths[piece]; k++) {
                greatest = Math.max(greatest, around(stringOf(piece, k) - bias));
            }
            return greatest;
        }
    }

    /** The latest ACTS, each with what it changed: a ring, in which the oldest gives way. */
    private static final class Acts {
        static final int NIGHT = 0, SHIFTING = 1, LESSON = 2;
        private static final int MOST_ACTS = 24;

        private final int[] sorts = new int[MOST_ACTS];
        private final int[] pupils = new int[MOST_ACTS];
        private final int[] before = new int[MOST_ACTS];
        private int next;
        int kept;

        void clear() {
            kept = 0;
        }

        void keep(int sort, int pupil, int was) {
            sorts[next] = sort;
            pupils[next] = pupil;
            before[next] = was;
            next = (next + 1) % MOST_ACTS;
            kept = Math.min(kept + 1, MOST_ACTS);
        }

        void takeBack(Hall hall) {
            next = (next + MOST_ACTS - 1) % MOST_ACTS;
            kept--;
            if (sorts[next] == LESSON) {
                hall.learnt[pupils[next]] = before[next];
                return;
            }
            hall.shift = before[next];
            if (sorts[next] == NIGHT) {
                hall.night--;
            }
        }
    }

    /** What is foretold of a HALL, which stays as it is. */
    private static final class Foretold {
        static final int TOLD_NIGHTS = 24, PROGRAMME_NIGHTS = 6;
        private static final int SOON_NIGHTS = 60, ALIKE_NIGHTS = 100;
        private static final long DRAW_FACTOR = 16807, DRAW_REST = 2147483647;

        private final Hall hall;
        private final int[] untaughtNights = new int[Hall.MOST_PUPILS];
        private final int[] taughtNights = new int[Hall.MOST_PUPILS];
        private final int[] pieceNights = new int[Hall.MOST_PIECES];

        Foretold(Hall hall) {
            this.hall = hall;
        }

        int firstNightAt(int wanted) {
            for (int night = 0; night <= SOON_NIGHTS; night++) {
                if (hall.shiftBehind(night) == wanted) {
                    return night;
                }
            }
            return NONE;
        }

        int nightsAt(int wanted, int n) {
            int nights = 0;
            for (int night = 0; night < n; night++) {
                if (hall.shiftBehind(night) == wanted) {
                    nights |= 1 << night;
                }
            }
            return nights;
        }

        int shiftsBy(int[] told, int from, int n, int lies) {
            int shifts = 0;
            for (int shift = 0; shift < hall.keys; shift++) {
                if (wrongsBy(shift, told, from, n) <= lies) {
                    shifts |= 1 << shift;
                }
            }
            return shifts;
        }

        private int wrongsBy(int shift, int[] told, int from, int n) {
            int wrongs = 0;
            for (int i = 0; i < n; i++) {
                int key = told[from + 2 * i];
                int string = told[from + 2 * i + 1];
                // A key that the piano has not gives no string at all.
                boolean isKey = key >= 0 && key < hall.keys;
                if (!isKey || hall.around(key + shift) != string) {
                    wrongs++;
                }
            }
            return wrongs;
        }

        /** The pupils to be taught, as bits; NONE. */
        int fewestTaught(int nights) {
            for (int pupil = 0; pupil < hall.pupils; pupil++) {
                int taughtBias = hall.biasAs(hall.kinds[pupil], hall.shift);
                untaughtNights[pupil] = nightsAt(hall.biasOf(pupil), TOLD_NIGHTS);
                taughtNights[pupil] = nightsAt(taughtBias, TOLD_NIGHTS);
            }
            int best = NONE;
            int fewest = hall.pupils + 1;
            for (int taught = 0; taught < 1 << hall.pupils; taught++) {
                boolean isRight = (nights & ~nightsIfTaught(taught)) == 0;
                if (isRight && Integer.bitCount(taught) < fewest) {
                    best = taught;
                    fewest = Integer.bitCount(taught);
                }
            }
            return best;
        }

        private int nightsIfTaught(int taught) {
            int nights = 0;
            for (int pupil = 0; pupil < hall.pupils; pupil++) {
                boolean isTaught = (taught >> pupil & 1) == 1;
                nights |= isTaught ? taughtNights[pupil] : untaughtNights[pupil];
            }
            return nights;
        }

        int programmes(int n) {
            findPieceNights(n);
            return waysFrom(0, (1 << n) - 1);
        }

        int nightOfPiece(int n, int k) {
            if (k >= hall.pieces) {
                return NONE;
            }
            findPieceNights(n);
            int free = (1 << n) - 1;
            int chosen = NONE;
            for (int piece = 0; piece <= k; piece++) {
                chosen = firstNightFor(piece, free);
                if (chosen == NONE) {
                    return NONE;
                }
                free &= ~(1 << chosen);
            }
            return chosen;
        }

        private int firstNightFor(int piece, int free) {
            int nights = pieceNights[piece] & free;
            for (int night = 0; night < PROGRAMME_NIGHTS; night++) {
                int bit = 1 << night;
                if ((nights & bit) != 0 && waysFrom(piece + 1, free & ~bit) > 0) {
                    return night;
                }
            }
            return NONE;
        }

        private void findPieceNights(int n) {
            for (int piece = 0; piece < hall.pieces; piece++) {
                pieceNights[piece] = 0;
                for (int pupil = 0; pupil < hall.pupils; pupil++) {
                    if (hall.reaches(pupil, piece)) {
                        pieceNights[piece] |= nightsAt(hall.biasOf(pupil), n);
                    }
                }
            }
        }

        // Each level is a PIECE, so it goes at most four levels deep.
        private int waysFrom(int piece, int free) {
            if (piece >= hall.pieces) {
                return 1;
            }
            int nights = pieceNights[piece] & free;
            int ways = 0;
            for (int night = 0; night < PROGRAMME_NIGHTS; night++) {
                int bit = 1 << night;
                if ((nights & bit) != 0) {
                    ways += waysFrom(piece + 1, free & ~bit);
                }
            }
            return ways;
        }

        int chordCount() {
            return 1 << ownStrings();
        }

        // A chord is told by its first strings: they come again all the way up, so that
        // the order of chords is the order of what is told.
        int chordNumber(int k) {
            int step = Math.max(1, ownStrings());
            int chord = 0;
            for (int from = 0; from < hall.keys; from += step) {
                chord |= k << from;
            }
            return chord;
        }

        // How many strings from 0 on are in or out of a chord by themselves.
        private int ownStrings() {
            return (int) divisorOfBoth(hall.drift, hall.keys);
        }

        int kindsHeard(int pupil, int piece, int[] told, int from) {
            int kinds = 0;
            for (int kind = PLAYER; kind <= CAT; kind++) {
                int bias = hall.biasAs(kind, hall.learnt[pupil]);
                if (soundsAs(bias, piece, told, from)) {
                    kinds |= 1 << kind;
                }
            }
            return kinds;
        }

        private boolean soundsAs(int bias, int piece, int[] told, int from) {
            for (int k = 0; k < hall.lengths[piece]; k++) {
                if (told[from + k] != hall.stringHeard(hall.stringOf(piece, k), bias)) {
                    return false;
                }
            }
            return true;
        }

        // To tune as late as may be is best: whoever tunes sooner has to tune again sooner.
        int fewestTunings(int n, int t) {
            int tunings = 0;
            int shift = hall.shift;
            for (int night = 0; night < n; night++) {
                shift = hall.around(shift + hall.drift);
                if (shift > t) {
                    shift = 0;
                    tunings++;
                }
            }
            return tunings;
        }

        int firstNightAlike(int drift, int shift) {
            for (int night = 0; night <= ALIKE_NIGHTS; night++) {
                if (hall.shiftBehind(night) == hall.around(shift + night * drift)) {
                    return night;
                }
            }
            return NONE;
        }

        /** How likely it is, as so many of 10 to the n-th. */
        long tenthsRight(int bias, int p, int n) {
            long right = 0;
            for (int thunders = 0; thunders <= n; thunders++) {
                if (hall.around(hall.shiftBehind(n) + thunders) == bias) {
                    right += choices(n, thunders) * power(p, thunders) * power(10 - p, n - thunders);
                }
            }
            return right;
        }

        private static long choices(int n, int some) {
            long ways = 1;
            for (int i = 1; i <= some; i++) {
                ways = ways * (n - some + i) / i;
            }
            return ways;
        }

        static long power(int base, int times) {
            long product = 1;
            for (int i = 0; i < times; i++) {
                product *= base;
            }
            return product;
        }

        // Each two rounds halve the greater one, so that far fewer than 128 are needed.
        static long divisorOfBoth(long one, long another) {
            long greater = one;
            long less = another;
            for (int round = 0; round < 128 && less != 0; round++) {
                long rest = greater % less;
                greater = less;
                less = rest;
            }
            return greater;
        }

        int nightsByDraws(int n, int seed, boolean isCount) {
            long x = seed;
            int shift = hall.shift;
            int biases = biasesOfAll();
            int nightsRight = 0;
            for (int night = 0; night < n; night++) {
                x = x * DRAW_FACTOR % DRAW_REST;
                if (x % 5 == 0) {
                    shift = hall.around(shift + hall.around((int) x));
                }
                shift = hall.around(shift + hall.drift);
                nightsRight += biases >> shift & 1;
            }
            return isCount ? nightsRight : shift;
        }

        private int biasesOfAll() {
            int biases = 0;
            for (int pupil = 0; pupil < hall.pupils; pupil++) {
                biases |= 1 << hall.biasOf(pupil);
            }
            return biases;
        }
    }

    /**
     * The PUPIL that is asked, and THE TRACE of the BODIES that began. A PLAYER is never
     * a CARRIER: so what is asked anew within a BODY is looked for among its own side.
     */
    private static final class Asked {
        private static final int LONGEST_TRACE = 16;
        /** The KIND that each KIND is besides, by its number. */
        private static final int[] ABOVE = {PUPIL, PUPIL, PLAYER, PLAYER, PUPIL, CARRIER};

        final int[] bodies = new int[LONGEST_TRACE];
        int left;
        private int number;
        private int sort;
        private int learnt;
        private int span;

        static boolean isOfKind(int own, int wanted) {
            if (wanted == PUPIL || own == wanted) {
                return true;
            }
            return own >= PUPIL && own <= CAT && ABOVE[own] == wanted;
        }

        void begin(int newNumber, int newSort, int newLearnt, int newSpan) {
            number = newNumber;
            sort = newSort;
            learnt = newLearnt;
            span = newSpan;
            left = 0;
        }

        int sizeOfOne() {
            switch (sort) {
                case AHEAD:
                    leave(12);
                    return -body11();
                case CARRIER:
                case CAT:
                    return sizeOfCarrier();
                default:
                    return body11();
            }
        }

        int markOfOne() {
            return isOfKind(sort, CARRIER) ? body23() : markOfPlayer();
        }

        private int sizeOfCarrier() {
            if (sort == CAT) {
                leave(14);
                return 2 * body13();
            }
            return body13();
        }

        private int markOfPlayer() {
            switch (sort) {
                case AHEAD:
                    leave(24);
                    return 2 * body21();
                case SHAMED:
                    leave(22);
                    return body21() - 1000;
                default:
                    return body21();
            }
        }

        private int body10() {
            leave(10);
            return span;
        }

        private int body11() {
            leave(11);
            int size = body10();
            return size + markOfPlayer();
        }

        private int body13() {
            leave(13);
            return body10() - 100;
        }

        private int body20() {
            leave(20);
            return number;
        }

        private int body21() {
            leave(21);
            return body20() + learnt;
        }

        private int body23() {
            leave(23);
            int mark = body20();
            return mark - sizeOfCarrier();
        }

        private void leave(int body) {
            if (left < LONGEST_TRACE) {
                bodies[left] = body;
                left++;
            }
        }
    }
}
