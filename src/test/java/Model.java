import java.math.BigInteger;
import java.util.ArrayDeque;
import java.util.ArrayList;
import java.util.Arrays;
import java.util.Deque;
import java.util.List;

/**
 * A second, plain telling of the document, as slow as it likes: what is foretold is tried
 * out, sets are gone through one by one, KINDS are classes. ModelTest compares with it.
 */
final class Model {
    private static final int NONE = -1000000, BAD = -1000001, STATE = -1000002, FULL = -1000003;

    /** A PUPIL is asked by the class it is of. */
    private abstract static class Pupil {
        int number;
        int learnt;
        int span;

        abstract int kind();

        abstract int bias(int drift);

        int size(List<Integer> trace) {
            trace.add(10);
            return span;
        }

        int mark(List<Integer> trace) {
            trace.add(20);
            return number;
        }
    }

    private static class Player extends Pupil {
        int kind() {
            return 1;
        }

        int bias(int drift) {
            return learnt;
        }

        int size(List<Integer> trace) {
            trace.add(11);
            return super.size(trace) + mark(trace);
        }

        int mark(List<Integer> trace) {
            trace.add(21);
            return super.mark(trace) + learnt;
        }
    }

    private static class Ahead extends Player {
        int kind() {
            return 2;
        }

        int bias(int drift) {
            return learnt + 2 * drift;
        }

        int size(List<Integer> trace) {
            trace.add(12);
            return 0 - super.size(trace);
        }

        int mark(List<Integer> trace) {
            trace.add(24);
            return super.mark(trace) * 2;
        }
    }

    private static class Shamed extends Player {
        int kind() {
            return 3;
        }

        int bias(int drift) {
            return learnt - 2;
        }

        int mark(List<Integer> trace) {
            trace.add(22);
            return super.mark(trace) - 1000;
        }
    }

    private static class Carrier extends Pupil {
        int kind() {
            return 4;
        }

        int bias(int drift) {
            return 0 - learnt;
        }

        int size(List<Integer> trace) {
            trace.add(13);
            return super.size(trace) - 100;
        }

        int mark(List<Integer> trace) {
            trace.add(23);
            return super.mark(trace) - size(trace);
        }
    }

    private static class Cat extends Carrier {
        int kind() {
            return 5;
        }

        int bias(int drift) {
            return super.bias(drift) + 1;
        }

        int size(List<Integer> trace) {
            trace.add(14);
            return super.size(trace) * 2;
        }
    }

    private static final Class<?>[] KINDS =
        {Pupil.class, Player.class, Ahead.class, Shamed.class, Carrier.class, Cat.class};

    private static Pupil newPupil(int kind, int number, int learnt, int span) {
        Pupil one = switch (kind) {
            case 1 -> new Player();
            case 2 -> new Ahead();
            case 3 -> new Shamed();
            case 4 -> new Carrier();
            default -> new Cat();
        };
        one.number = number;
        one.learnt = learnt;
        one.span = span;
        return one;
    }

    private static final class Hall {
        int keys;
        int drift;
        int shift;
        int night;
        List<int[]> pieces = new ArrayList<>();
        List<Pupil> pupils = new ArrayList<>();

        Hall twin() {
            Hall twin = new Hall();
            twin.keys = keys;
            twin.drift = drift;
            twin.shift = shift;
            twin.night = night;
            twin.pieces.addAll(pieces);
            for (Pupil one : pupils) {
                twin.pupils.add(newPupil(one.kind(), one.number, one.learnt, one.span));
            }
            return twin;
        }

        int rest(long value) {
            return (int) Math.floorMod(value, (long) keys);
        }

        void oneNight() {
            night++;
            shift = rest(shift + drift);
        }

        boolean isRight(int pupil) {
            return rest(pupils.get(pupil).bias(drift)) == shift;
        }

        boolean isSomebodyRight() {
            for (int i = 0; i < pupils.size(); i++) {
                if (isRight(i)) {
                    return true;
                }
            }
            return false;
        }

        int[] keysFor(int pupil, int piece) {
            int[] keysStruck = pieces.get(piece).clone();
            for (int i = 0; i < keysStruck.length; i++) {
                keysStruck[i] = rest(keysStruck[i] - pupils.get(pupil).bias(drift));
            }
            Arrays.sort(keysStruck);
            return keysStruck;
        }

        boolean reaches(int pupil, int piece) {
            int[] sorted = keysFor(pupil, piece);
            return sorted[sorted.length - 1] - sorted[0] < pupils.get(pupil).span;
        }
    }

    private final int[][] rows = new int[8][];
    private final int[] lanes = new int[8];
    private final StringBuilder tape = new StringBuilder();
    private Hall hall = null;
    private final Hall[] images = new Hall[2];
    /** The halls as they were ahead of each ACT, the latest first. */
    private final Deque<Hall> before = new ArrayDeque<>();
    private List<Integer> trace = new ArrayList<>();
    private int fault = 0;
    private int status = 0;

    private int finding(int number) {
        status = number;
        return -1000010 - number;
    }

    private int fine(int answer) {
        status = 0;
        return answer;
    }

    private static boolean out(int value, int least, int greatest) {
        return value < least || value > greatest;
    }

    private boolean noPupil(int pupil) {
        return hall == null || out(pupil, 0, hall.pupils.size() - 1);
    }

    private boolean noPiece(int piece) {
        return hall == null || out(piece, 0, hall.pieces.size() - 1);
    }

    private void act() {
        before.push(hall.twin());
        if (before.size() > 24) {
            before.removeLast();
        }
    }

    int row(int row, int lane, int n) {
        if (out(row, 0, 7) || out(lane, 0, 2) || n > 40) {
            return BAD;
        }
        if (n < 0) {
            return finding(4);
        }
        rows[row] = new int[n];
        lanes[row] = lane;
        return fine(n);
    }

    int set(int row, int i, int v) {
        if (out(row, 0, 7)) {
            return BAD;
        }
        if (rows[row] == null) {
            return finding(1);
        }
        if (out(i, 0, rows[row].length - 1)) {
            return finding(2);
        }
        int drop = 32 - (8 << lanes[row]);
        rows[row][i] = v << drop >> drop;
        return fine(rows[row][i]);
    }

    int copy(int a, int i, int b, int j, int n) {
        if (out(a, 0, 7) || out(b, 0, 7)) {
            return BAD;
        }
        if (rows[a] == null || rows[b] == null) {
            return finding(1);
        }
        if (lanes[a] != lanes[b]) {
            return finding(5);
        }
        boolean isBelow = i < 0 || j < 0 || n < 0;
        if (isBelow || (long) i + n > rows[a].length || (long) j + n > rows[b].length) {
            return finding(2);
        }
        int[] ahead = rows[a].clone();
        for (int k = 0; k < n; k++) {
            rows[b][j + k] = ahead[i + k];
        }
        return fine(n);
    }

    int drop(int row) {
        if (out(row, 0, 7)) {
            return BAD;
        }
        if (rows[row] == null) {
            return finding(1);
        }
        int had = rows[row].length;
        rows[row] = null;
        return fine(had);
    }

    int feed(int letter) {
        if (out(letter, 0, 255)) {
            return BAD;
        }
        if (tape.length() == 120) {
            return FULL;
        }
        tape.append((char) letter);
        return tape.length();
    }

    /** A token: its text, and the place of its first byte. What is no token has the text "?". */
    private record Token(String text, int place) {
        boolean isNumber() {
            return Character.isDigit(text.charAt(0));
        }

        int value() {
            return Integer.parseInt(text);
        }
    }

    private static List<Token> tokens(String text) {
        List<Token> tokens = new ArrayList<>();
        int at = 0;
        while (at < text.length()) {
            int end = at;
            while (end < text.length() && text.charAt(end) >= '0' && text.charAt(end) <= '9') {
                end++;
            }
            String one = end > at ? text.substring(at, end) : text.substring(at, at + 1);
            boolean isToken = one.matches("[a-z]|[0-9]{1,2}|,|;");
            tokens.add(new Token(isToken ? one : "?", at));
            at += one.length();
        }
        tokens.add(new Token("$", text.length()));
        return tokens;
    }

    int hall() {
        List<Token> tokens = tokens(tape.toString());
        tape.setLength(0);
        Hall read = new Hall();
        // What may stand next, by a letter: k the law; 1 2 3 its numbers; t pieces or
        // pupils; s strings; p pupils; l what is learnt; a span; the signs between them.
        String state = "k";
        int kind = 0;
        int learnt = 0;
        List<Integer> strings = new ArrayList<>();
        for (Token token : tokens) {
            String text = token.text();
            int wrong = 0;
            switch (state) {
                case "k" -> {
                    wrong = text.equals("k") ? 0 : 1;
                    state = "1";
                }
                case "1", "2", "3" -> {
                    int least = state.equals("1") ? 2 : 0;
                    int most = state.equals("1") ? 12 : read.keys - 1;
                    wrong = !token.isNumber() ? 1 : out(token.value(), least, most) ? 2 : 0;
                    if (wrong == 0 && state.equals("1")) {
                        read.keys = token.value();
                    } else if (wrong == 0 && state.equals("2")) {
                        read.drift = token.value();
                    } else if (wrong == 0) {
                        read.shift = token.value();
                    }
                    state = state + "'";
                }
                case "1'", "2'" -> {
                    wrong = text.equals(",") ? 0 : 1;
                    state = state.equals("1'") ? "2" : "3";
                }
                case "3'" -> {
                    wrong = text.equals(";") ? 0 : 1;
                    state = "t";
                }
                case "t", "p" -> {
                    kind = " pvscm".indexOf(text);
                    if (text.equals("$")) {
                        state = "end";
                    } else if (text.equals("t") && state.equals("t")) {
                        wrong = read.pieces.size() == 4 ? 3 : 0;
                        strings.clear();
                        state = "s";
                    } else if (kind >= 1) {
                        wrong = read.pupils.size() == 5 ? 3 : 0;
                        state = "l";
                    } else {
                        wrong = 1;
                    }
                }
                case "s" -> {
                    int string = "abcdefghijkl".substring(0, read.keys).indexOf(text);
                    if (text.equals(";") && !strings.isEmpty()) {
                        read.pieces.add(strings.stream().mapToInt(Integer::intValue).toArray());
                        state = "t";
                    } else if (string >= 0 && strings.size() < 8) {
                        strings.add(string);
                    } else {
                        wrong = 1;
                    }
                }
                case "l" -> {
                    wrong = !token.isNumber() ? 1 : out(token.value(), 0, read.keys - 1) ? 2 : 0;
                    learnt = wrong == 0 ? token.value() : 0;
                    state = "l'";
                }
                case "l'" -> {
                    wrong = text.equals(",") ? 0 : 1;
                    state = "a";
                }
                case "a" -> {
                    wrong = !token.isNumber() ? 1 : out(token.value(), 1, 12) ? 2 : 0;
                    if (wrong == 0) {
                        read.pupils.add(newPupil(kind, read.pupils.size(), learnt, token.value()));
                    }
                    state = "a'";
                }
                default -> {
                    wrong = text.equals(";") ? 0 : 1;
                    state = "p";
                }
            }
            if (wrong != 0) {
                fault = wrong;
                return -1000100 - token.place();
            }
        }
        hall = read;
        before.clear();
        return hall.pupils.size();
    }

    int fault() {
        return fault;
    }

    int undo() {
        if (before.isEmpty()) {
            return STATE;
        }
        hall = before.pop();
        return before.size();
    }

    int nights(int n) {
        if (hall == null) {
            return STATE;
        }
        if (out(n, 1, 24)) {
            return BAD;
        }
        if (hall.night + n > 999) {
            return FULL;
        }
        for (int i = 0; i < n; i++) {
            act();
            hall.oneNight();
        }
        return hall.shift;
    }

    int thunder(int by) {
        if (hall == null) {
            return STATE;
        }
        if (out(by, 1, 11)) {
            return BAD;
        }
        act();
        hall.shift = hall.rest(hall.shift + by);
        return hall.shift;
    }

    int tune() {
        if (hall == null) {
            return STATE;
        }
        act();
        int was = hall.shift;
        hall.shift = 0;
        return was;
    }

    int learn(int pupil) {
        if (noPupil(pupil)) {
            return BAD;
        }
        act();
        int was = hall.pupils.get(pupil).learnt;
        hall.pupils.get(pupil).learnt = hall.shift;
        return was;
    }

    int piece(int piece, int k) {
        if (noPiece(piece) || k < -1) {
            return BAD;
        }
        int[] strings = hall.pieces.get(piece);
        if (k == -1) {
            return strings.length;
        }
        return k < strings.length ? strings[k] : NONE;
    }

    int pupil(int pupil, int what) {
        if (noPupil(pupil) || out(what, 0, 3)) {
            return BAD;
        }
        Pupil one = hall.pupils.get(pupil);
        int[] answers = {one.learnt, one.span, hall.rest(one.bias(hall.drift)), hall.isRight(pupil) ? 1 : 0};
        return answers[what];
    }

    int plays(int pupil, int piece, int what) {
        if (noPupil(pupil) || noPiece(piece) || out(what, 0, 2)) {
            return BAD;
        }
        int[] sorted = hall.keysFor(pupil, piece);
        int[] answers = {hall.reaches(pupil, piece) ? 1 : 0, sorted[0], sorted[sorted.length - 1]};
        return answers[what];
    }

    int heard(int pupil, int piece, int k) {
        if (noPupil(pupil) || noPiece(piece) || out(k, 0, hall.pieces.get(piece).length - 1)) {
            return BAD;
        }
        int key = hall.rest(hall.pieces.get(piece)[k] - hall.pupils.get(pupil).bias(hall.drift));
        return strike(key);
    }

    int strike(int key) {
        if (hall == null) {
            return STATE;
        }
        return out(key, 0, hall.keys - 1) ? BAD : hall.rest(key + hall.shift);
    }

    int soon(int pupil) {
        if (noPupil(pupil)) {
            return BAD;
        }
        return soonOfAll(pupil, pupil);
    }

    int together(int pupil, int other) {
        if (noPupil(pupil) || noPupil(other) || pupil == other) {
            return BAD;
        }
        return soonOfAll(pupil, other);
    }

    private int soonOfAll(int one, int another) {
        Hall later = hall.twin();
        for (int night = 0; night <= 60; night++) {
            if (later.isRight(one) && later.isRight(another)) {
                return night;
            }
            later.oneNight();
        }
        return NONE;
    }

    int itself() {
        if (hall == null) {
            return STATE;
        }
        Hall later = hall.twin();
        for (int night = 0; night <= 60; night++) {
            if (later.shift == 0) {
                return night;
            }
            later.oneNight();
        }
        return NONE;
    }

    int nightsOf(int pupil, int n) {
        if (noPupil(pupil) || out(n, 1, 24)) {
            return BAD;
        }
        Hall later = hall.twin();
        int bits = 0;
        for (int night = 0; night < n; night++) {
            bits += later.isRight(pupil) ? 1 << night : 0;
            later.oneNight();
        }
        return bits;
    }

    int struck(int row, int i, int n, int lies) {
        if (hall == null) {
            return STATE;
        }
        if (out(row, 0, 7) || out(n, 1, 12) || out(lies, 0, 1)) {
            return BAD;
        }
        if (rows[row] == null) {
            return finding(1);
        }
        if (i < 0 || (long) i + 2 * n > rows[row].length) {
            return finding(2);
        }
        int bits = 0;
        for (int shift = 0; shift < hall.keys; shift++) {
            int right = 0;
            for (int k = 0; k < n; k++) {
                for (int key = 0; key < hall.keys; key++) {
                    boolean isTold = rows[row][i + 2 * k] == key;
                    right += isTold && rows[row][i + 2 * k + 1] == hall.rest(key + shift) ? 1 : 0;
                }
            }
            bits += right == n || lies == 1 && right == n - 1 ? 1 << shift : 0;
        }
        return fine(bits);
    }

    int lessons(int nights, int what) {
        if (hall == null) {
            return STATE;
        }
        if (out(nights, 0, (1 << 24) - 1) || out(what, 0, 1)) {
            return BAD;
        }
        int count = hall.pupils.size();
        for (int many = 0; many <= count; many++) {
            for (int set = 0; set < 1 << count; set++) {
                if (Integer.bitCount(set) == many && isRightIfTaught(set, nights)) {
                    return what == 0 ? many : set;
                }
            }
        }
        return NONE;
    }

    private boolean isRightIfTaught(int set, int nights) {
        Hall later = hall.twin();
        for (int i = 0; i < later.pupils.size(); i++) {
            if ((set & 1 << i) != 0) {
                later.pupils.get(i).learnt = later.shift;
            }
        }
        for (int night = 0; night < 24; night++) {
            if ((nights & 1 << night) != 0 && !later.isSomebodyRight()) {
                return false;
            }
            later.oneNight();
        }
        return true;
    }

    int programme(int n, int k) {
        if (hall == null) {
            return STATE;
        }
        if (out(n, 1, 6) || out(k, -1, 3)) {
            return BAD;
        }
        int count = hall.pieces.size();
        int ways = 0;
        int all = (int) Math.pow(n, count);
        int first = NONE;
        for (int way = 0; way < all; way++) {
            int[] night = new int[count];
            for (int piece = count - 1, left = way; piece >= 0; piece--, left /= n) {
                night[piece] = left % n;
            }
            if (isProgramme(night)) {
                first = ways == 0 && k >= 0 && k < count ? night[k] : first;
                ways++;
            }
        }
        return k == -1 ? ways : first;
    }

    private boolean isProgramme(int[] night) {
        for (int piece = 0; piece < night.length; piece++) {
            for (int before = 0; before < piece; before++) {
                if (night[before] == night[piece]) {
                    return false;
                }
            }
            Hall later = hall.twin();
            for (int i = 0; i < night[piece]; i++) {
                later.oneNight();
            }
            boolean isGiven = false;
            for (int pupil = 0; pupil < later.pupils.size(); pupil++) {
                isGiven |= later.isRight(pupil) && later.reaches(pupil, piece);
            }
            if (!isGiven) {
                return false;
            }
        }
        return true;
    }

    int chords(int k) {
        if (hall == null) {
            return STATE;
        }
        if (k < -1) {
            return BAD;
        }
        int many = 0;
        for (int set = 0; set < 1 << hall.keys; set++) {
            int moved = 0;
            for (int string = 0; string < hall.keys; string++) {
                moved |= (set >> string & 1) << hall.rest(string + hall.drift);
            }
            if (moved == set) {
                if (many == k) {
                    return set;
                }
                many++;
            }
        }
        return k == -1 ? many : NONE;
    }

    int who(int pupil, int piece, int row, int i) {
        if (noPupil(pupil) || noPiece(piece) || out(row, 0, 7)) {
            return BAD;
        }
        if (rows[row] == null) {
            return finding(1);
        }
        int[] strings = hall.pieces.get(piece);
        if (i < 0 || (long) i + strings.length > rows[row].length) {
            return finding(2);
        }
        int bits = 0;
        for (int kind = 1; kind <= 5; kind++) {
            Pupil one = newPupil(kind, 0, hall.pupils.get(pupil).learnt, 1);
            int[] given = new int[strings.length];
            for (int k = 0; k < given.length; k++) {
                given[k] = strike(hall.rest(strings[k] - one.bias(hall.drift)));
            }
            int[] told = Arrays.copyOfRange(rows[row], i, i + given.length);
            bits += Arrays.equals(given, told) ? 1 << kind : 0;
        }
        return fine(bits);
    }

    int tunings(int n, int t) {
        if (hall == null) {
            return STATE;
        }
        if (out(n, 1, 60) || out(t, 0, 11)) {
            return BAD;
        }
        // The fewest tunings by the SHIFT one stands at: each NIGHT both ways are tried.
        int far = 1000;
        int[] fewest = new int[hall.keys];
        Arrays.fill(fewest, far);
        fewest[hall.shift] = 0;
        for (int night = 0; night < n; night++) {
            int[] next = new int[hall.keys];
            Arrays.fill(next, far);
            for (int shift = 0; shift < hall.keys; shift++) {
                int then = hall.rest(shift + hall.drift);
                if (then <= t) {
                    next[then] = Math.min(next[then], fewest[shift]);
                }
                next[0] = Math.min(next[0], fewest[shift] + 1);
            }
            fewest = next;
        }
        return Arrays.stream(fewest).min().getAsInt();
    }

    int other(int drift, int shift) {
        if (hall == null) {
            return STATE;
        }
        if (out(drift, 0, hall.keys - 1) || out(shift, 0, hall.keys - 1)) {
            return BAD;
        }
        Hall one = hall.twin();
        Hall another = hall.twin();
        another.drift = drift;
        another.shift = shift;
        for (int night = 0; night <= 100; night++) {
            if (one.shift == another.shift) {
                return night;
            }
            one.oneNight();
            another.oneNight();
        }
        return NONE;
    }

    long thunderOdds(int pupil, int p, int n, int what) {
        if (noPupil(pupil) || out(p, 0, 10) || out(n, 0, 6) || out(what, 0, 1)) {
            return BAD;
        }
        BigInteger above = BigInteger.ZERO;
        for (int thunders = 0; thunders < 1 << n; thunders++) {
            Hall later = hall.twin();
            BigInteger weight = BigInteger.ONE;
            for (int night = 0; night < n; night++) {
                boolean isThunder = (thunders >> night & 1) == 1;
                later.oneNight();
                later.shift = later.rest(later.shift + (isThunder ? 1 : 0));
                weight = weight.multiply(BigInteger.valueOf(isThunder ? p : 10 - p));
            }
            above = later.isRight(pupil) ? above.add(weight) : above;
        }
        BigInteger below = BigInteger.TEN.pow(n);
        BigInteger shared = above.gcd(below);
        return (what == 0 ? above : below).divide(shared).longValueExact();
    }

    int drawn(int n, int seed, int what) {
        if (hall == null) {
            return STATE;
        }
        if (out(n, 0, 60) || out(seed, 1, 999999) || out(what, 0, 1)) {
            return BAD;
        }
        Hall later = hall.twin();
        BigInteger x = BigInteger.valueOf(seed);
        int right = 0;
        for (int night = 0; night < n; night++) {
            x = x.multiply(BigInteger.valueOf(16807)).mod(BigInteger.valueOf(2147483647));
            if (x.mod(BigInteger.valueOf(5)).signum() == 0) {
                int thunder = x.mod(BigInteger.valueOf(later.keys)).intValueExact();
                later.shift = later.rest(later.shift + thunder);
            }
            later.oneNight();
            right += later.isSomebodyRight() ? 1 : 0;
        }
        return what == 0 ? later.shift : right;
    }

    int image(int k) {
        if (out(k, 0, 1)) {
            return BAD;
        }
        if (hall == null) {
            return STATE;
        }
        images[k] = hall.twin();
        return 1;
    }

    int restore(int k) {
        if (out(k, 0, 1)) {
            return BAD;
        }
        if (images[k] == null) {
            return STATE;
        }
        hall = images[k].twin();
        before.clear();
        return 1;
    }

    int kind(int one) {
        return noPupil(one) ? BAD : hall.pupils.get(one).kind();
    }

    int as(int one, int kind) {
        if (noPupil(one) || out(kind, 0, 5)) {
            return BAD;
        }
        return KINDS[kind].isInstance(hall.pupils.get(one)) ? fine(one) : finding(3);
    }

    int ask(int one, int what) {
        if (noPupil(one) || out(what, 0, 1)) {
            return BAD;
        }
        trace = new ArrayList<>();
        Pupil asked = hall.pupils.get(one);
        return what == 0 ? asked.size(trace) : asked.mark(trace);
    }

    int trace(int i) {
        return out(i, 0, Math.min(trace.size(), 16) - 1) ? NONE : trace.get(i);
    }

    int count(int what) {
        if (out(what, 0, 8)) {
            return BAD;
        }
        int there = 0;
        for (int[] row : rows) {
            there += row == null ? 0 : 1;
        }
        Hall one = hall == null ? new Hall() : hall;
        int[] answers = {there, one.keys, one.drift, one.shift, one.pieces.size(), one.pupils.size(), one.night,
            before.size(), tape.length()};
        return answers[what];
    }

    int status() {
        return status;
    }
}
