/** Promises 30 to 34: what fits a row of what was LEFT, and how likely all are paid. */
public final class WatchedTest {
    public static void main(String[] args) {
        kindsAndCares();
        kindsOfAnother();
        refusalsOfWho();
        sums();
        stayed();
        likely();
        weeks();
        Check.end();
    }

    private static void kindsAndCares() {
        TellerDays x = Check.bankOf("b0,1;c30,3;d12;d9;");
        Check.fill(x, 2, 2, 7, 21, 15, 15);
        Check.due("careful alone", x.who(0, 0, 0, 2, 1, 2), 1 << 1);
        Check.due("care 3", x.who(0, 1, 0, 2, 1, 2), 1 << 3);
        Check.due("one TURN longer", x.who(0, 0, 0, 2, 1, 3), 1 << 1);
        Check.due("from 0 on nothing fits", x.who(0, 0, 0, 2, 0, 2), 0);
        Check.due("no care", x.who(0, 1, 0, 2, 0, 2), 0);
        TellerDays low = Check.bankOf("b0,20;k30,9;d2;");
        Check.fill(low, 0, 0, 29);
        Check.due("careful, brisk", low.who(0, 0, 0, 0, 0, 1), 1 << 1 | 1 << 2);
        Check.due("all cares", low.who(0, 1, 0, 0, 0, 1), 1022);
        TellerDays brown = Check.bankOf("b0,1;y30,1;d5;");
        Check.fill(brown, 0, 1, 26, 27);
        Check.due("a brown one has more at the week's end", brown.who(0, 0, 0, 0, 0, 2), 1 << 5);
        TellerDays none = Check.bankOf("b0,20;y30,1;");
        Check.fill(none, 0, 1, 30, 30, 30, 30, 30, 30, 30, 30, 30, 30, 30, 30, 30);
        Check.due("nobody comes: all kinds", none.who(0, 0, 0, 0, 1, 12), 62);
        Check.due("as it is", none.kind(0), 4);
    }

    private static void kindsOfAnother() {
        TellerDays x = Check.bankOf("b0,20;y30,1;c24,2;d10;d2;");
        Check.fill(x, 0, 0, 24, 23);
        Check.due("he serves the second", x.who(0, 0, 1, 0, 0, 2), 1 << 1 | 1 << 3 | 1 << 4 | 1 << 5);
        Check.fill(x, 0, 0, 24, 24);
        Check.due("a brisk one serves both", x.who(0, 0, 1, 0, 0, 2), 1 << 2);
        Check.fill(x, 0, 0, 24, 22);
        Check.due("none", x.who(0, 0, 1, 0, 0, 2), 0);
        Check.fill(x, 0, 0, 20, 20);
        Check.due("his own kinds do not change it", x.who(1, 0, 0, 0, 0, 2), 62);
    }

    private static void refusalsOfWho() {
        TellerDays x = Check.bankOf("b0,20;y30,1;c28,2;d10;d2;");
        Check.due("NULL", x.who(0, 0, 0, 0, 0, 1), Check.NULL);
        Check.due("status", x.status(), 1);
        Check.due("NULL ahead of PLACE", x.who(0, 0, 0, 0, -1, 1), Check.NULL);
        Check.fill(x, 0, 0, 20, 20);
        Check.due("PLACE", x.who(0, 0, 0, 0, 1, 2), Check.PLACE);
        Check.due("PLACE below", x.who(0, 0, 0, 0, -1, 1), Check.PLACE);
        Check.due("PLACE max", x.who(0, 0, 0, 0, Integer.MAX_VALUE, 12), Check.PLACE);
        Check.due("PLACE min", x.who(0, 1, 0, 0, Integer.MIN_VALUE, 12), Check.PLACE);
        Check.due("status", x.status(), 2);
        Check.due("teller", x.who(2, 0, 0, 0, 0, 1), Check.BAD);
        Check.due("teller", x.who(-1, 0, 0, 0, 0, 1), Check.BAD);
        Check.due("which", x.who(0, 2, 0, 0, 0, 1), Check.BAD);
        Check.due("which", x.who(0, -1, 0, 0, 0, 1), Check.BAD);
        Check.due("other", x.who(0, 0, 2, 0, 0, 1), Check.BAD);
        Check.due("other", x.who(0, 0, -1, 0, 0, 1), Check.BAD);
        Check.due("row", x.who(0, 0, 0, 8, 0, 1), Check.BAD);
        Check.due("row", x.who(0, 0, 0, -1, 0, 1), Check.BAD);
        Check.due("n 0", x.who(0, 0, 0, 0, 0, 0), Check.BAD);
        Check.due("n 13", x.who(0, 0, 0, 0, 0, 13), Check.BAD);
        Check.due("status stays", x.status(), 2);
        x.who(0, 0, 0, 0, 0, 1);
        Check.due("status 0", x.status(), 0);
    }

    private static void sums() {
        TellerDays x = Check.bankOf("b0,20;n40,1;d3;");
        Check.fill(x, 1, 2, 31, 31, 33, 40);
        Check.due("9 and more", x.sums(0, 1, 0, 2), 0x7ffffe00);
        Check.due("7 alone", x.sums(0, 1, 2, 1), 1 << 7);
        Check.due("none", x.sums(0, 1, 3, 1), 0);
        TellerDays cap = Check.bankOf("b0,20;y60,1;p30;p3;");
        cap.serve(1);
        Check.fill(cap, 1, 2, 99);
        Check.due("a paying-in, 99 at most", cap.sums(0, 1, 0, 1), (1 << 9) + 0x7ffffc00);
        Check.due("its SUM stays", cap.paper(1, 0), 3);
        TellerDays unpaid = Check.bankOf("b0,20;y29,1;d3;");
        Check.fill(unpaid, 1, 2, 29);
        Check.due("UNPAID by 30", unpaid.sums(0, 1, 0, 1), 1 << 30);
        Check.due("NULL", unpaid.sums(0, 2, 0, 1), Check.NULL);
        Check.due("status", unpaid.status(), 1);
        Check.due("PLACE", unpaid.sums(0, 1, 0, 2), Check.PLACE);
        Check.due("teller", unpaid.sums(1, 1, 0, 1), Check.BAD);
        Check.due("row", unpaid.sums(0, 8, 0, 1), Check.BAD);
        Check.due("n 0", unpaid.sums(0, 1, 0, 0), Check.BAD);
        Check.due("n 13", unpaid.sums(0, 1, 0, 13), Check.BAD);
        unpaid.serve(1);
        Check.due("empty, ahead of NULL", unpaid.sums(0, 2, 0, 1), Check.STATE);
        Check.due("BAD ahead of STATE", unpaid.sums(0, 1, 0, 0), Check.BAD);
        Check.due("status stays", unpaid.status(), 2);
    }

    private static void stayed() {
        TellerDays x = Check.bankOf("b0,20;y30,1;d3;d4;d3;p7;");
        Check.fill(x, 0, 0, 27, 24, 31, 23, 26, 23);
        Check.due("the second", x.stayed(0, 0, 0, 3), 1 << 1);
        Check.due("the second, or as now", x.stayed(0, 0, 0, 1), 128 | 14);
        Check.due("as it is", x.stayed(0, 0, 3, 1), 0);
        TellerDays y = Check.bankOf("b0,20;y30,1;d3;d4;d3;p7;");
        y.swap();
        Check.fill(y, 0, 0, 26, 23, 27, 20);
        Check.due("as it is, and others", y.stayed(0, 0, 0, 2), 128 | 1 << 0 | 1 << 2 | 1 << 3);
        Check.due("the first, by its number", y.stayed(0, 0, 2, 1), 1 << 1);
        TellerDays empty = Check.bankOf("b0,20;y30,1;");
        Check.fill(empty, 0, 0, 30, 31);
        Check.due("nobody is there", empty.stayed(0, 0, 0, 1), 128);
        Check.due("nobody is there", empty.stayed(0, 0, 1, 1), 0);
        Check.due("NULL", empty.stayed(0, 2, 0, 1), Check.NULL);
        Check.due("PLACE", empty.stayed(0, 0, 1, 2), Check.PLACE);
        Check.due("status", empty.status(), 2);
        Check.due("teller", empty.stayed(1, 0, 0, 1), Check.BAD);
        Check.due("row", empty.stayed(0, 8, 0, 1), Check.BAD);
        Check.due("n 0", empty.stayed(0, 0, 0, 0), Check.BAD);
        Check.due("n 13", empty.stayed(0, 0, 0, 13), Check.BAD);
    }

    private static void fraction(TellerDays x, int p, long above, long below) {
        Check.due("away(" + p + ",0)", x.away(p, 0), above);
        Check.due("away(" + p + ",1)", x.away(p, 1), below);
    }

    private static void likely() {
        TellerDays x = Check.bankOf("b0,20;y10,1;d6;d6;");
        fraction(x, 0, 0, 1);
        fraction(x, 1, 19, 100);
        fraction(x, 5, 3, 4);
        fraction(x, 10, 1, 1);
        TellerDays seven = Check.bankOf("b0,20;y6,1;d1;d1;d1;d1;d1;d1;d1;");
        fraction(seven, 1, 10000000L - 4782969L, 10000000L);
        TellerDays pay = Check.bankOf("b0,20;y0,1;p9;d9;");
        fraction(pay, 3, 79, 100);
        pay.counter(0, 0);
        fraction(pay, 3, 9, 100);
        fraction(Check.bankOf("b0,20;y0,1;"), 7, 1, 1);
        Check.due("p -1", x.away(-1, 0), Check.BAD);
        Check.due("p 11", x.away(11, 0), Check.BAD);
        Check.due("what 2", x.away(1, 2), Check.BAD);
        Check.due("what -1", x.away(1, -1), Check.BAD);
    }

    private static void weeks() {
        // By SEED 1: X is 16807 (a drawing of 8), 282475249 (a drawing of 20), 1622650073 (a drawing of 24).
        TellerDays x = Check.bankOf("b0,20;y30,1;");
        int[] unpaid = {0, 0, 0, 1};
        int[] left = {30, 22, 2, 2};
        for (int n = 0; n < 4; n++) {
            Check.due("drawn(" + n + ",1,0)", x.drawn(n, 1, 0), unpaid[n]);
            Check.due("drawn(" + n + ",1,1)", x.drawn(n, 1, 1), left[n]);
        }
        // By SEED 3: 50421, 3 leaves 0: a paying-in of 22.
        Check.due("a paying-in", x.drawn(1, 3, 1), 52);
        TellerDays full = Check.bankOf("b0,20;y60,1;d1;d1;d1;d1;d1;d1;d1;");
        Check.due("no room for the first that comes", full.drawn(1, 3, 1), 59);
        Check.due("seven TURNS and none of theirs", full.drawn(7, 1, 1), 53);
        full.dismiss();
        Check.due("one UNPAID is not of these", full.drawn(1, 1, 0), 0);
        Check.due("nothing changes", full.count(2), 6);
        Check.due("n -1", x.drawn(-1, 1, 0), Check.BAD);
        Check.due("n 61", x.drawn(61, 1, 0), Check.BAD);
        Check.due("seed 0", x.drawn(1, 0, 0), Check.BAD);
        Check.due("seed 1000000", x.drawn(1, 1000000, 0), Check.BAD);
        // 999999 times 16807 leaves 1774597664: a drawing of 15.
        Check.due("seed 999999", x.drawn(1, 999999, 1), 15);
        Check.due("what 2", x.drawn(1, 1, 2), Check.BAD);
        Check.due("what -1", x.drawn(1, 1, -1), Check.BAD);
    }
}
