import java.util.function.Consumer;

/** Promises 30 to 36, sentence by sentence. */
public final class EdgesOfFittingTest {
    private static final int MIN = Integer.MIN_VALUE, MAX = Integer.MAX_VALUE;

    public static void main(String[] args) {
        Edge.of(30, "KINDS (which = 0)", EdgesOfFittingTest::kinds);
        Edge.of(30, "CARES (1) of a TELLER", EdgesOfFittingTest::cares);
        Edge.of(30, "by what another one (or himself) has LEFT", EdgesOfFittingTest::anotherOrHimself);
        Edge.of(30, "n ITEMS of a ROW from i on.", () -> itemsFromIOn((x, i, n) -> x.who(0, 1, 0, 0, i, n), 1022));
        Edge.of(30, "BAD: TELLER, which, OTHER, ROW, n;", EdgesOfFittingTest::whoBad);
        Edge.of(30, "NULL;", () -> missing((x, i, n) -> x.who(0, 0, 0, 7, i, n)));
        Edge.of(30, "PLACE.", () -> beyond((x, i, n) -> x.who(0, 0, 0, 2, i, n)));

        Edge.of(31, "SUMS,", EdgesOfFittingTest::sums);
        Edge.of(31, "n ITEMS of a ROW from i on.", () -> itemsFromIOn((x, i, n) -> x.sums(0, 0, i, n), 1 << 2));
        Edge.of(31, "BAD: TELLER, ROW, n;", () -> fittingBad((x, teller, row, n) -> x.sums(teller, row, 0, n)));
        Edge.of(31, "STATE: THE QUEUE is empty;", EdgesOfFittingTest::sumsOfNobody);
        Edge.of(31, "NULL;", () -> missing((x, i, n) -> x.sums(0, 7, i, n)));
        Edge.of(31, "PLACE.", () -> beyond((x, i, n) -> x.sums(0, 2, i, n)));

        Edge.of(32, "STAYED,", EdgesOfFittingTest::stayed);
        Edge.of(32, "n ITEMS of a ROW from i on.", () -> itemsFromIOn((x, i, n) -> x.stayed(0, 0, i, n), 128));
        Edge.of(32, "BAD: TELLER, ROW, n;", () -> fittingBad((x, teller, row, n) -> x.stayed(teller, row, 0, n)));
        Edge.of(32, "NULL;", () -> missing((x, i, n) -> x.stayed(0, 7, i, n)));
        Edge.of(32, "PLACE.", () -> beyond((x, i, n) -> x.stayed(0, 2, i, n)));

        Edge.of(33, "AWAY: above (what = 0), below (1).", EdgesOfFittingTest::away);
        Edge.of(33, "BAD;", EdgesOfFittingTest::awayBad);
        Edge.of(33, "STATE: no BANK (ahead of BAD).", EdgesOfFittingTest::awayNoBank);

        Edge.of(34, "WEEKS by a SEED (1 to 999999): how many (what = 0), LEFT (1).", EdgesOfFittingTest::drawn);
        Edge.of(34, "BAD;", EdgesOfFittingTest::drawnBad);
        Edge.of(34, "STATE: no BANK (ahead of BAD).", EdgesOfFittingTest::drawnNoBank);

        Edge.of(35, "An IMAGE (0, 1) is kept of the BANK: 1.", EdgesOfFittingTest::imageIsKept);
        Edge.of(35, "BAD;", EdgesOfFittingTest::imageBad);
        Edge.of(35, "STATE: no BANK.", EdgesOfFittingTest::imageNoBank);

        Edge.of(36, "The BANK is as an IMAGE kept it", EdgesOfFittingTest::asItWasKept);
        Edge.of(36, "(no ACT can be undone then): 1.", EdgesOfFittingTest::noActThen);
        Edge.of(36, "BAD;", EdgesOfFittingTest::restoreBad);
        Edge.of(36, "STATE: none was kept.", EdgesOfFittingTest::noneWasKept);
        Edge.end(30, 36);
    }

    private interface Span {
        int of(TellerDays x, int i, int n);
    }

    private interface Watch {
        int of(TellerDays x, int teller, int row, int n);
    }

    /** A young one with 60 DAYS, of whom 2 are drawn; the row tells that from ITEM 3 on, to the 15th. */
    private static void itemsFromIOn(Span call, int want) {
        TellerDays x = Check.bankOf("b0,20;y60,1;d2;");
        x.row(0, 0, 16);
        for (int i = 3; i < 15; i++) {
            x.set(0, i, 58);
        }
        Check.due("one, from 3 on", call.of(x, 3, 1), want);
        Check.due("one, the last of these", call.of(x, 14, 1), want);
        Check.due("twelve, from 3 on", call.of(x, 3, 12), want);
        Check.due("twelve, from 4 on: the last is not so", call.of(x, 4, 12), 0);
        Check.due("two, from 2 on: the first is not so", call.of(x, 2, 2), 0);
        Check.due("status()", x.status(), 0);
    }

    private static void missing(Span call) {
        Twin.refused(Pasts::rich, "a ROW that is missing", x -> call.of(x, 0, 1), Check.NULL);
        Twin.refused(Pasts::rich, "missing, n 12", x -> call.of(x, 0, 12), Check.NULL);
    }

    private static void beyond(Span call) {
        int[][] spans = {{-1, 1}, {MIN, 1}, {4, 1}, {3, 2}, {0, 5}, {MAX, 1}, {MAX, 12}, {39, 1}, {40, 1}};
        for (int[] span : spans) {
            Twin.refused(Pasts::rich, "i " + span[0] + ", n " + span[1], x -> call.of(x, span[0], span[1]), Check.PLACE);
        }
        TellerDays x = new TellerDays();
        Pasts.rich(x);
        Check.that("to the end", call.of(x, 3, 1) >= 0);
        Check.that("all of it", call.of(x, 0, 4) >= 0);
    }

    private static void fittingBad(Watch call) {
        for (int teller : new int[] {MIN, -1, 3, 4, MAX}) {
            Twin.refused(Pasts::rich, "TELLER " + teller, x -> call.of(x, teller, 2, 1), Check.BAD);
            Twin.refused(Pasts::rich, "TELLER " + teller + ", ahead of NULL", x -> call.of(x, teller, 7, 1), Check.BAD);
        }
        for (int row : new int[] {MIN, -1, 8, MAX}) {
            Twin.refused(Pasts::rich, "ROW " + row, x -> call.of(x, 0, row, 1), Check.BAD);
        }
        for (int n : new int[] {MIN, -1, 0, 13, MAX}) {
            Twin.refused(Pasts::rich, "n " + n, x -> call.of(x, 0, 2, n), Check.BAD);
            Twin.refused(Pasts::rich, "n " + n + ", ahead of NULL", x -> call.of(x, 0, 7, n), Check.BAD);
            Twin.refused(Pasts::emptyQueue, "n " + n + ", nobody is there", x -> call.of(x, 0, 2, n), Check.BAD);
        }
        Twin.refused(Pasts::none, "no BANK", x -> call.of(x, 0, 2, 1), Check.BAD);
    }

    private static void kinds() {
        // A drawing of 11, CARE 3: 8, 8/2 and 1, 8 and 2, 11, 9 of 40.
        int[] left = {32, 35, 30, 29, 31};
        for (int kind = 1; kind <= 5; kind++) {
            TellerDays x = Check.bankOf("b0,20;y40,3;d11;");
            Check.fill(x, 0, 0, left[kind - 1]);
            Check.due(left[kind - 1] + " LEFT", x.who(0, 0, 0, 0, 0, 1), 1 << kind);
        }
        TellerDays none = Check.bankOf("b0,20;y40,3;d11;");
        Check.fill(none, 0, 0, 40, 33);
        Check.due("none", none.who(0, 0, 0, 0, 0, 1), 0);
        Check.due("none", none.who(0, 0, 0, 0, 1, 1), 0);
        TellerDays all = Check.bankOf("b0,20;y40,3;");
        Check.fill(all, 0, 0, 40);
        Check.due("all", all.who(0, 0, 0, 0, 0, 1), 62);
    }

    private static void cares() {
        // A drawing of 10 of a careful one who has 40.
        for (int care = 1; care <= 9; care++) {
            TellerDays x = Check.bankOf("b0,20;c40,4;d10;");
            Check.fill(x, 0, 0, 30 + care);
            Check.due(30 + care + " LEFT", x.who(0, 1, 0, 0, 0, 1), 1 << care);
            Check.due("CARE stays", x.teller(0, 1), 4);
        }
        TellerDays x = Check.bankOf("b0,20;c40,4;d10;");
        Check.fill(x, 0, 0, 30, 40);
        Check.due("no CARE of 0", x.who(0, 1, 0, 0, 0, 1), 0);
        Check.due("no CARE of 10", x.who(0, 1, 0, 0, 1, 1), 0);
        TellerDays young = Check.bankOf("b0,20;y40,4;d10;");
        Check.fill(young, 0, 0, 30);
        Check.due("a young one has none to show", young.who(0, 1, 0, 0, 0, 1), 1022);
    }

    private static void anotherOrHimself() {
        TellerDays x = Check.bankOf("b0,20;c20,4;y15,1;d10;d2;");
        // By CARE 4 the first has 14, so the other serves d2; by CARE 5 and more he serves both, the first of several.
        Check.fill(x, 0, 0, 15, 13, 15, 15);
        Check.due("the other serves", x.who(0, 1, 1, 0, 0, 2), 0b11110);
        Check.due("the other does not", x.who(0, 1, 1, 0, 2, 2), 0b1111100000);
        Check.fill(x, 1, 0, 14, 14);
        Check.due("himself", x.who(0, 1, 0, 1, 0, 2), 1 << 4);
        Check.due("the other's CARE does nothing", x.who(1, 1, 0, 1, 0, 2), 1022);
    }

    private static void whoBad() {
        fittingBad((x, teller, row, n) -> x.who(teller, 0, 0, row, 0, n));
        fittingBad((x, other, row, n) -> x.who(0, 1, other, row, 0, n));
        for (int which : new int[] {MIN, -1, 2, MAX}) {
            Twin.refused(Pasts::rich, "which " + which, x -> x.who(0, which, 0, 2, 0, 1), Check.BAD);
            Twin.refused(Pasts::rich, "which " + which + ", ahead of NULL", x -> x.who(0, which, 0, 7, 0, 1), Check.BAD);
        }
    }

    private static void sums() {
        TellerDays x = Check.bankOf("b0,20;y30,1;y1,1;d7;d7;");
        x.row(0, 2, 1);
        for (int sum = 1; sum <= 30; sum++) {
            x.set(0, 0, 30 - sum);
            Check.due(30 - sum + " LEFT", x.sums(0, 0, 0, 1), 1 << sum);
        }
        x.set(0, 0, 30);
        Check.due("no SUM of 0", x.sums(0, 0, 0, 1), 0);
        Check.due("SUM stays", x.paper(0, 0), 7);
        x.set(0, 0, 1);
        Check.due("by another one", x.sums(1, 0, 0, 1), 0x7ffffffe);
    }

    private static void sumsOfNobody() {
        Twin.refused(Pasts::emptyQueue, "sums(0, 2, 0, 1)", x -> x.sums(0, 2, 0, 1), Check.STATE);
        Twin.refused(Pasts::emptyQueue, "ahead of NULL", x -> x.sums(0, 7, 0, 1), Check.STATE);
        Twin.refused(Pasts::emptyQueue, "ahead of PLACE", x -> x.sums(0, 2, 9, 1), Check.STATE);
        TellerDays one = new TellerDays();
        Pasts.oneInQueue(one);
        Check.that("one is there", one.sums(0, 2, 0, 1) >= 0);
    }

    private static void stayed() {
        TellerDays x = Check.bankOf("b0,20;y60,1;d1;d2;d3;d4;d5;d6;d7;");
        x.row(0, 0, 7);
        int[] all = {59, 57, 54, 50, 45, 39, 32};
        for (int i = 0; i < 7; i++) {
            x.set(0, i, all[i]);
        }
        Check.due("as it is", x.stayed(0, 0, 0, 7), 128);
        Check.due("as it is, three TURNS: the last four may stay away", x.stayed(0, 0, 0, 3), 128 | 0b1111000);
        for (int paper = 0; paper < 7; paper++) {
            int left = 60;
            for (int i = 0; i < 7; i++) {
                int drawn = i < paper ? i + 1 : i < 6 ? i + 2 : 0;
                left -= drawn;
                x.set(0, i, left);
            }
            Check.due("without " + paper, x.stayed(0, 0, 0, 7), 1 << paper);
        }
        TellerDays empty = Check.bankOf("b0,20;y60,1;");
        Check.fill(empty, 0, 0, 60, 59);
        Check.due("nobody is there", empty.stayed(0, 0, 0, 1), 128);
        Check.due("nobody is there, not so", empty.stayed(0, 0, 1, 1), 0);
    }

    private static void fraction(TellerDays x, int p, long above, long below) {
        Check.due("away(" + p + ", 0)", x.away(p, 0), above);
        Check.due("away(" + p + ", 1)", x.away(p, 1), below);
    }

    private static void away() {
        TellerDays x = Check.bankOf("b0,20;y5,1;d6;");
        fraction(x, 0, 0, 1);
        fraction(x, 1, 1, 10);
        fraction(x, 5, 1, 2);
        fraction(x, 9, 9, 10);
        fraction(x, 10, 1, 1);
        fraction(Check.bankOf("b0,20;y6,1;d6;"), 0, 1, 1);
        fraction(Check.bankOf("b0,20;y6,1;"), 3, 1, 1);
        // All but that none of seven stays away: 1 less 3 to the seventh by 10 to the seventh.
        TellerDays seven = Check.bankOf("b0,20;y6,1;d1;d1;d1;d1;d1;d1;d1;");
        fraction(seven, 7, 10000000 - 2187, 10000000);
        fraction(seven, 0, 0, 1);
        fraction(seven, 10, 1, 1);
    }

    private static void awayBad() {
        for (int p : new int[] {MIN, -1, 11, MAX}) {
            Twin.refused(Pasts::rich, "away(" + p + ", 0)", x -> x.away(p, 0), Check.BAD);
        }
        for (int what : new int[] {MIN, -1, 2, MAX}) {
            Twin.refused(Pasts::rich, "away(0, " + what + ")", x -> x.away(0, what), Check.BAD);
        }
    }

    private static void awayNoBank() {
        for (int p : new int[] {MIN, -1, 0, 10, 11, MAX}) {
            Twin.refused(Pasts::none, "away(" + p + ", 0)", x -> x.away(p, 0), Check.STATE);
            Twin.refused(Pasts::none, "away(0, " + p + ")", x -> x.away(0, p), Check.STATE);
        }
    }

    private static void drawn() {
        TellerDays x = Check.bankOf("b0,20;y30,1;");
        // 16807, 282475249, 1622650073: drawings of 8, 20 and 24; 999999: a drawing of 15.
        Check.due("n 0, how many", x.drawn(0, 1, 0), 0);
        Check.due("n 0, LEFT", x.drawn(0, 1, 1), 30);
        Check.due("n 3, how many", x.drawn(3, 1, 0), 1);
        Check.due("n 3, LEFT", x.drawn(3, 1, 1), 2);
        Check.due("the greatest SEED", x.drawn(1, 999999, 1), 15);
        Check.that("60", x.drawn(60, 1, 0) >= 0 && x.drawn(60, 999999, 1) >= 0);
    }

    private static void drawnBad() {
        for (int n : new int[] {MIN, -1, 61, MAX}) {
            Twin.refused(Pasts::rich, "drawn(" + n + ", 1, 0)", x -> x.drawn(n, 1, 0), Check.BAD);
        }
        for (int seed : new int[] {MIN, -1, 0, 1000000, MAX}) {
            Twin.refused(Pasts::rich, "drawn(1, " + seed + ", 0)", x -> x.drawn(1, seed, 0), Check.BAD);
            Twin.refused(Pasts::rich, "drawn(0, " + seed + ", 1)", x -> x.drawn(0, seed, 1), Check.BAD);
        }
        for (int what : new int[] {MIN, -1, 2, MAX}) {
            Twin.refused(Pasts::rich, "drawn(1, 1, " + what + ")", x -> x.drawn(1, 1, what), Check.BAD);
        }
    }

    private static void drawnNoBank() {
        Twin.refused(Pasts::none, "drawn(1, 1, 0)", x -> x.drawn(1, 1, 0), Check.STATE);
        Twin.refused(Pasts::none, "drawn(61, 1, 0)", x -> x.drawn(61, 1, 0), Check.STATE);
        Twin.refused(Pasts::none, "drawn(1, 0, 0)", x -> x.drawn(1, 0, 0), Check.STATE);
        Twin.refused(Pasts::none, "drawn(1, 1, 2)", x -> x.drawn(1, 1, 2), Check.STATE);
    }

    private static void imageIsKept() {
        TellerDays x = Check.bankOf("b0,20;y30,1;d4;d5;");
        Check.due("image(0)", x.image(0), 1);
        x.serve(1);
        Check.due("image(1)", x.image(1), 1);
        Check.due("it is no ACT", x.count(6), 1);
        x.restore(0);
        Check.due("0 has 30", x.teller(0, 2), 30);
        x.restore(1);
        Check.due("1 has 26", x.teller(0, 2), 26);
        x.serve(1);
        Check.due("0 anew", x.image(0), 1);
        x.restore(1);
        x.restore(0);
        Check.due("0 has 21", x.teller(0, 2), 21);
    }

    private static void outside(String name, Consumer<Integer> test) {
        for (int k : new int[] {MIN, -1, 2, MAX}) {
            test.accept(k);
        }
        Check.that(name + " within", Check.bankOf("b0,20;y30,1;").image(1) == 1);
    }

    private static void imageBad() {
        outside("image", k -> Twin.refused(Pasts::rich, "image(" + k + ")", x -> x.image(k), Check.BAD));
        outside("image", k -> Twin.refused(Pasts::none, "image(" + k + "), no BANK", x -> x.image(k), Check.BAD));
    }

    private static void imageNoBank() {
        Twin.refused(Pasts::none, "image(0)", x -> x.image(0), Check.STATE);
        Twin.refused(Pasts::none, "image(1)", x -> x.image(1), Check.STATE);
    }

    private static void asItWasKept() {
        TellerDays x = new TellerDays();
        Check.read(x, "b3,2;n20,2;k30,5;d7;p4;d12;");
        x.serve(1);
        x.counter(0, 0);
        x.dismiss();
        x.image(1);
        Check.read(x, "b0,7;y1,1;");
        Check.due("restore(1)", x.restore(1), 1);
        int[] counts = {2, 1, 1, 1, 1};
        for (int what = 1; what < 6; what++) {
            Check.due("count(" + what + ")", x.count(what), counts[what - 1]);
        }
        // The brisk one paid d7: 2/2 and 1.
        int[][] tellers = {{20, 2, 20, 0, 0}, {30, 5, 28, 1, 1}};
        for (int t = 0; t < 2; t++) {
            Check.due("kind(" + t + ")", x.kind(t), t == 0 ? 5 : 2);
            for (int what = 0; what < 5; what++) {
                Check.due("teller(" + t + ", " + what + ")", x.teller(t, what), tellers[t][what]);
            }
        }
        Check.due("in THE QUEUE", x.queue(0), 2);
        Check.due("SUM of one that left", x.paper(1, 0), 4);
        Check.due("3 never was there", x.paper(3, 0), Check.BAD);
        // INFANCY 3: the brisk one has 25 to give, so half of 49, and 1; his CARE is 5.
        Check.due("INFANCY", x.most(), 54);
        Check.due("the IMAGE stays", x.restore(1), 1);
    }

    private static void noActThen() {
        TellerDays x = new TellerDays();
        Pasts.rich(x);
        Check.that("ACTS", x.count(6) > 0);
        Check.due("restore(0)", x.restore(0), 1);
        Check.due("ACTS then", x.count(6), 0);
        Check.due("undo()", x.undo(), Check.STATE);
        x.serve(1);
        Check.due("ACTS from then on", x.undo(), 0);
    }

    private static void restoreBad() {
        outside("restore", k -> Twin.refused(Pasts::rich, "restore(" + k + ")", x -> x.restore(k), Check.BAD));
        outside("restore", k -> Twin.refused(Pasts::none, "restore(" + k + "), none", x -> x.restore(k), Check.BAD));
    }

    private static void noneWasKept() {
        Twin.refused(Pasts::none, "restore(0)", x -> x.restore(0), Check.STATE);
        Twin.refused(Pasts::none, "restore(1)", x -> x.restore(1), Check.STATE);
        Twin.refused(Pasts::rich, "restore(1), 0 was kept", x -> x.restore(1), Check.STATE);
        TellerDays x = Check.bankOf("b0,20;y30,1;");
        x.image(1);
        Check.due("restore(0), 1 was kept", x.restore(0), Check.STATE);
    }
}
