/** What the tests share: answers that are due, and halls told by a text. */
final class Check {
    static final int NULL = -1000011, PLACE = -1000012, KIND = -1000013, SIZE = -1000014, STORE = -1000015;
    /** All five SORTS, three PIECES; SHIFT 3. */
    static final String FIVE = "k7,2,3;tabc;tgfa;tdddd;p3,4;v1,7;s5,2;c4,12;m2,3;";

    /** What is tested now, for those who read what a test prints. */
    static String sentence = "";
    private static int wrong = 0;

    private Check() {
    }

    static void due(String what, long got, long want) {
        if (got != want) {
            wrong++;
            String heading = sentence.isEmpty() ? "" : "[" + sentence + "] ";
            System.out.println(heading + what + " answered " + got + ", due is " + want);
        }
    }

    static void holds(String what, boolean isSo) {
        due(what, isSo ? 1 : 0, 1);
    }

    static void end() {
        System.out.println(wrong == 0 ? "all answers are as due" : wrong + " answers are not as due");
        if (wrong != 0) {
            System.exit(1);
        }
    }

    static int tell(KeyDrift x, String text) {
        for (int i = 0; i < text.length(); i++) {
            x.feed(text.charAt(i));
        }
        return x.hall();
    }

    static KeyDrift hall(String text) {
        KeyDrift x = new KeyDrift();
        int answer = tell(x, text);
        holds("hall() of " + text + ", which answered " + answer, answer >= 0);
        return x;
    }

    static void fill(KeyDrift x, int row, int lane, int... items) {
        due("row", x.row(row, lane, items.length), items.length);
        for (int i = 0; i < items.length; i++) {
            x.set(row, i, items[i]);
        }
    }
}
