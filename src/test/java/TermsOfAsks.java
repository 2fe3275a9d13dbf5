/** Terms, sections 3 and 4: KINDS and ASKS. */
final class TermsOfAsks {
    private static final int MOST_DAYS = 60;

    private TermsOfAsks() {
    }

    static void quote() {
        Edge.of(0, "KINDS of TELLERS: 0 TELLER;", () -> isOne('c', 0, 1));
        Edge.of(0, "1 CAREFUL, a TELLER;", () -> isOne('c', 0, 1));
        Edge.of(0, "2 BRISK, a CAREFUL;", () -> isOne('k', 0, 1, 2));
        Edge.of(0, "3 ROSY, a CAREFUL;", () -> isOne('o', 0, 1, 3));
        Edge.of(0, "4 YOUNG, a TELLER;", () -> isOne('y', 0, 4));
        Edge.of(0, "5 BROWN, a YOUNG.", () -> isOne('n', 0, 4, 5));
        Edge.of(0, "By this it is asked.", TermsOfAsks::byThisItIsAsked);
        Edge.of(0, "ASKS of TELLERS, by BODIES, each of which leaves its number in THE TRACE as it begins", TermsOfAsks::asItBegins);
        Edge.of(0, "(the first 16):", TermsOfAsks::theFirst16);
        sizes();
        marks();
        Edge.of(0, "(Of an ask the BODY told for the KIND begins", TermsOfAsks::bodyOfTheKind);
        Edge.of(0, "else that of the nearest KIND that it is, too", TermsOfAsks::bodyOfTheNearest);
        Edge.of(0, "else the one that is lent;", TermsOfAsks::bodyThatIsLent);
        Edge.of(0, "SIZE, MARK within others are asked of the same TELLER anew.)", TermsOfAsks::askedAnew);
    }

    private static void sizes() {
        Edge.of(0, "0 SIZE: 10 lent to all TELLERS: CARE.", () -> asked('y', 0, 7 - 100, 13, 10));
        Edge.of(0, "11 of CAREFUL ones: what 10 gives, and MARK.", () -> asked('c', 0, 7 + 2 + 20, 11, 10, 21, 20));
        Edge.of(0, "12 of BRISK ones: 0 less what 11 gives.", () -> asked('k', 0, -(7 + 2 * 22), 12, 11, 10, 24, 21, 20));
        Edge.of(0, "13 of YOUNG ones: what 10 gives, less 100.", () -> asked('y', 0, 7 - 100, 13, 10));
        Edge.of(0, "14 of BROWN ones: what 13 gives, twice.", () -> asked('n', 0, 2 * (7 - 100), 14, 13, 10));
    }

    private static void marks() {
        Edge.of(0, "1 MARK: 20 lent to all TELLERS: the number.", TermsOfAsks::theNumber);
        Edge.of(0, "21 of CAREFUL ones: what 20 gives, and what he has LEFT.", () -> asked('c', 1, 2 + 20, 21, 20));
        Edge.of(0, "22 of ROSY ones: what 21 gives, less 1000.", () -> asked('o', 1, 2 + 20 - 1000, 22, 21, 20));
        Edge.of(0, "23 of YOUNG ones: what 20 gives, less SIZE.", () -> asked('y', 1, 2 - (7 - 100), 23, 20, 13, 10));
        Edge.of(0, "24 of BRISK ones: what 21 gives, twice.", () -> asked('k', 1, 2 * (2 + 20), 24, 21, 20));
    }

    private static void isOne(char sort, int... kinds) {
        TellerDays x = Check.bankOf("b0,20;" + sort + "9,1;");
        for (int kind = 0; kind < 6; kind++) {
            boolean is = false;
            for (int one : kinds) {
                is |= one == kind;
            }
            Check.due(sort + " as " + kind, x.as(0, kind), is ? 0 : Check.KIND);
        }
    }

    /** TELLER 2, CARE 7, 20 LEFT: 10 DAYS, and 10 paid in. */
    private static TellerDays third(char sort) {
        TellerDays x = Check.bankOf("b0,20;y1,1;y1,1;" + sort + "10,7;p10;");
        x.counter(0, 0);
        x.counter(1, 0);
        x.serve(1);
        Check.due("LEFT", x.teller(2, 2), 20);
        return x;
    }

    private static void asked(char sort, int what, int answer, int... trace) {
        TellerDays x = third(sort);
        Check.due("ask(2, " + what + ") of " + sort, x.ask(2, what), answer);
        for (int i = 0; i < trace.length; i++) {
            Check.due("trace(" + i + ")", x.trace(i), trace[i]);
        }
        Check.due("the end", x.trace(trace.length), Check.NONE);
    }

    private static void byThisItIsAsked() {
        // A brown one has no MARK of its own: it is a YOUNG one, too.
        asked('n', 1, 2 - 2 * (7 - 100), 23, 20, 14, 13, 10);
        asked('o', 0, 7 + (2 + 20 - 1000), 11, 10, 22, 21, 20);
    }

    private static void asItBegins() {
        // 12 begins ahead of 11, though 11 ends first.
        TellerDays x = third('k');
        x.ask(2, 0);
        Check.due("12", x.trace(0), 12);
        Check.due("11", x.trace(1), 11);
    }

    /** No ask has more than six BODIES; beyond, there is nothing. */
    private static void theFirst16() {
        for (char sort : "ckoyn".toCharArray()) {
            TellerDays x = third(sort);
            for (int what = 0; what < 2; what++) {
                for (int round = 0; round < 20; round++) {
                    x.ask(2, what);
                }
                Check.due("trace(6)", x.trace(6), Check.NONE);
                Check.due("trace(15)", x.trace(15), Check.NONE);
                Check.due("trace(16)", x.trace(16), Check.NONE);
            }
        }
    }

    private static void theNumber() {
        TellerDays x = Check.bankOf("b0,20;c0,1;c0,1;c0,1;c0,1;");
        for (int t = 0; t < 4; t++) {
            Check.due("ask(" + t + ", 1)", x.ask(t, 1), t);
        }
        Check.due("20", x.trace(1), 20);
        TellerDays rich = Check.bankOf("b0,20;c" + MOST_DAYS + ",9;");
        Check.due("and LEFT", rich.ask(0, 1), MOST_DAYS);
    }

    private static void bodyOfTheKind() {
        int[][] first = {{'c', 11, 21}, {'k', 12, 24}, {'y', 13, 23}};
        for (int[] f : first) {
            begins((char) f[0], 0, f[1]);
            begins((char) f[0], 1, f[2]);
        }
        begins('o', 1, 22);
        begins('n', 0, 14);
    }

    private static void begins(char sort, int what, int body) {
        TellerDays x = third(sort);
        x.ask(2, what);
        Check.due("ask " + what + " of " + sort + " begins with", x.trace(0), body);
    }

    private static void bodyOfTheNearest() {
        begins('o', 0, 11);
        begins('n', 1, 23);
    }

    /** Each KIND has a BODY by itself or by another, so the ones that are lent begin within these alone. */
    private static void bodyThatIsLent() {
        for (char sort : "ckoyn".toCharArray()) {
            for (int what = 0; what < 2; what++) {
                TellerDays x = third(sort);
                x.ask(2, what);
                Check.that("10, 20 do not begin", x.trace(0) != 10 && x.trace(0) != 20);
                int lent = 0;
                for (int i = 1; i < 6; i++) {
                    lent += x.trace(i) == 10 || x.trace(i) == 20 ? 1 : 0;
                }
                Check.that("but within", lent >= 1);
            }
        }
    }

    private static void askedAnew() {
        // MARK within 11 is the brisk one's own, 24, and the rosy one's, 22; SIZE within 23 the brown one's, 14.
        asked('k', 0, -(7 + 2 * (2 + 20)), 12, 11, 10, 24, 21, 20);
        asked('o', 0, 7 + 2 + 20 - 1000, 11, 10, 22, 21, 20);
        asked('n', 1, 2 - 2 * (7 - 100), 23, 20, 14, 13, 10);
    }
}
