/** What the tests share: a count of wrong answers, and a tape fed from a text. */
final class Check {
    static final int NONE = -1000000, BAD = -1000001, STATE = -1000002, FULL = -1000003;
    static final int NULL = -1000011, PLACE = -1000012, KIND = -1000013, SIZE = -1000014, STORE = -1000015;
    static final int[] EXTREMES = {Integer.MIN_VALUE, -1000000, -1, 1000000, Integer.MAX_VALUE};

    private static int wrong = 0;
    private static int made = 0;
    private static String about = "";

    private Check() {
    }

    /** What the checks that follow look at: it is told ahead of each wrong answer. */
    static void about(String what) {
        about = what.isEmpty() ? "" : "[" + what + "] ";
    }

    /** How many checks there were. */
    static int made() {
        return made;
    }

    static void due(String call, long got, long want) {
        made++;
        if (got != want) {
            wrong++;
            System.out.println(about + call + " answered " + got + ", due is " + want);
        }
    }

    static void that(String what, boolean holds) {
        due(what, holds ? 1 : 0, 1);
    }

    static int read(TellerDays x, String text) {
        for (int i = 0; i < text.length(); i++) {
            x.feed(text.charAt(i));
        }
        return x.bank();
    }

    static TellerDays bankOf(String text) {
        TellerDays x = new TellerDays();
        int tellers = read(x, text);
        that("a bank is read from " + text, tellers >= 1);
        return x;
    }

    static void fill(TellerDays x, int row, int lane, int... items) {
        due("row", x.row(row, lane, items.length), items.length);
        for (int i = 0; i < items.length; i++) {
            x.set(row, i, items[i]);
        }
    }

    static void end() {
        if (wrong != 0) {
            System.out.println(wrong + " answers are not as due");
            System.exit(1);
        }
    }
}
