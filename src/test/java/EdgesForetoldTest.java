import java.util.function.ToLongFunction;

/** Promises 19 to 29, sentence by sentence. */
public final class EdgesForetoldTest {
    private static final int MIN = Integer.MIN_VALUE, MAX = Integer.MAX_VALUE;

    public static void main(String[] args) {
        Edge.of(19, "AHEAD: LEFT.", EdgesForetoldTest::aheadLeft);
        Edge.of(19, "BAD.", EdgesForetoldTest::aheadBad);

        Edge.of(20, "AHEAD: PAPERS.", EdgesForetoldTest::aheadPapers);
        Edge.of(20, "BAD;", EdgesForetoldTest::waitingBad);
        Edge.of(20, "STATE: no BANK (ahead of BAD).", EdgesForetoldTest::waitingNoBank);

        Edge.of(21, "WHO;", EdgesForetoldTest::whoServes);
        Edge.of(21, "NONE.", EdgesForetoldTest::nobodyServes);
        Edge.of(21, "BAD;", EdgesForetoldTest::serverBad);
        Edge.of(21, "STATE: it is not in THE QUEUE.", EdgesForetoldTest::serverOfOneThatLeft);

        Edge.of(22, "HOLDS.", EdgesForetoldTest::holds);
        Edge.of(22, "STATE: no BANK.", () -> noBank("holds()", TellerDays::holds));

        Edge.of(23, "INFANT;", EdgesForetoldTest::infant);
        Edge.of(23, "NONE.", EdgesForetoldTest::noInfant);
        Edge.of(23, "STATE: no BANK.", () -> noBank("infant()", TellerDays::infant));

        Edge.of(24, "ORDER: how many (k = -1), how much (k = -2)", EdgesForetoldTest::orderPaidAndLeft);
        Edge.of(24, "the k-th (0 on;", EdgesForetoldTest::orderKth);
        Edge.of(24, "NONE: not so many are there).", EdgesForetoldTest::orderNotSoMany);
        Edge.of(24, "BAD: k below -2;", EdgesForetoldTest::orderBad);
        Edge.of(24, "STATE: no BANK (ahead of BAD).", EdgesForetoldTest::orderNoBank);

        Edge.of(25, "SHARE: how much (k = -1)", EdgesForetoldTest::shareLeft);
        Edge.of(25, "who (0 on;", EdgesForetoldTest::shareWho);
        Edge.of(25, "NONE: not so many are there);", EdgesForetoldTest::shareNotSoMany);
        Edge.of(25, "there); NONE.", EdgesForetoldTest::shareNoWay);
        Edge.of(25, "BAD: k below -1;", EdgesForetoldTest::shareBad);
        Edge.of(25, "STATE: no BANK (ahead of BAD).", EdgesForetoldTest::shareNoBank);

        Edge.of(26, "OPEN: how many (what = 0), which (1);", EdgesForetoldTest::openCounters);
        Edge.of(26, "NONE.", EdgesForetoldTest::openNone);
        Edge.of(26, "BAD;", () -> choiceBad("open", (x, what) -> x.open(what)));
        Edge.of(26, "STATE: no BANK (ahead of BAD).", () -> choiceNoBank("open", (x, what) -> x.open(what)));

        Edge.of(27, "CHEAP: who (what = 0), COST (1).", EdgesForetoldTest::cheap);
        Edge.of(27, "BAD;", EdgesForetoldTest::cheapBad);
        Edge.of(27, "STATE: no BANK (ahead of BAD).", EdgesForetoldTest::cheapNoBank);

        Edge.of(28, "MOST;", EdgesForetoldTest::most);
        Edge.of(28, "NONE.", EdgesForetoldTest::mostNone);
        Edge.of(28, "STATE: no BANK.", () -> noBank("most()", TellerDays::most));

        Edge.of(29, "TWINS: how many (what = 0), the first (1;", EdgesForetoldTest::twins);
        Edge.of(29, "NONE).", EdgesForetoldTest::noTwins);
        Edge.of(29, "BAD;", () -> choiceBad("twins", (x, what) -> x.twins(what)));
        Edge.of(29, "STATE: no BANK (ahead of BAD).", () -> choiceNoBank("twins", (x, what) -> x.twins(what)));
        Edge.end(19, 29);
    }

    private interface Choice {
        long of(TellerDays x, int what);
    }

    private static void noBank(String name, ToLongFunction<TellerDays> call) {
        Twin.refused(Pasts::none, name, call, Check.STATE);
        TellerDays x = new TellerDays();
        Check.read(x, "b0,20;y1,1;x");
        Check.due(name + " behind a FAULT", call.applyAsLong(x), Check.STATE);
    }

    private static void choiceBad(String name, Choice call) {
        for (int what : new int[] {MIN, -1, 2, MAX}) {
            Twin.refused(Pasts::rich, name + "(" + what + ")", x -> call.of(x, what), Check.BAD);
        }
    }

    private static void choiceNoBank(String name, Choice call) {
        for (int what : new int[] {MIN, -1, 0, 1, 2, MAX}) {
            Twin.refused(Pasts::none, name + "(" + what + ")", x -> call.of(x, what), Check.STATE);
        }
    }

    private static void aheadLeft() {
        TellerDays x = Check.bankOf("b0,20;n30,1;y20,1;d9;p3;d30;d1;");
        // d9 by the brown one; p3 by the other; d30 by the other? He has 23: no. By the brown one, 9; d1 by the other.
        int[][] left = {{30, 20}, {21, 20}, {21, 23}, {12, 23}, {12, 22}, {12, 22}};
        for (int n = 0; n < left.length; n++) {
            Check.due("ahead(0, " + n + ")", x.ahead(0, n), left[n][0]);
            Check.due("ahead(1, " + n + ")", x.ahead(1, n), left[n][1]);
        }
        // TURNS 20, 40 and 60 end a week: three days more.
        Check.due("ahead(0, 59)", x.ahead(0, 59), 14);
        Check.due("ahead(0, 60)", x.ahead(0, 60), 15);
        TellerDays late = new TellerDays();
        Pasts.turn999(late);
        Check.that("beyond TURN 999", late.ahead(0, 60) >= 0);
    }

    private static void aheadBad() {
        for (int teller : new int[] {MIN, -1, 3, 4, MAX}) {
            Twin.refused(Pasts::rich, "ahead(" + teller + ", 0)", x -> x.ahead(teller, 0), Check.BAD);
        }
        for (int n : new int[] {MIN, -1, 61, MAX}) {
            Twin.refused(Pasts::rich, "ahead(0, " + n + ")", x -> x.ahead(0, n), Check.BAD);
        }
        Twin.refused(Pasts::none, "ahead(0, 0), no BANK", x -> x.ahead(0, 0), Check.BAD);
    }

    private static void aheadPapers() {
        TellerDays x = Check.bankOf("b0,20;y9,1;d9;d9;p1;d1;d1;d1;d1;");
        x.swap();
        int[] bits = {127, 125, 124, 120, 112, 96, 64, 0, 0};
        for (int n = 0; n < bits.length; n++) {
            Check.due("waiting(" + n + ")", x.waiting(n), bits[n]);
        }
        Check.due("waiting(60)", x.waiting(60), 0);
    }

    private static void waitingBad() {
        for (int n : new int[] {MIN, -1, 61, MAX}) {
            Twin.refused(Pasts::rich, "waiting(" + n + ")", x -> x.waiting(n), Check.BAD);
        }
    }

    private static void waitingNoBank() {
        for (int n : new int[] {MIN, -1, 0, 60, 61}) {
            Twin.refused(Pasts::none, "waiting(" + n + ")", x -> x.waiting(n), Check.STATE);
        }
    }

    private static void whoServes() {
        TellerDays x = Check.bankOf("b0,20;y20,1;y15,1;d6;d6;p3;d1;d1;d1;d1;");
        // 14, 15; 14, 9; 14, 12; then 13, 12, 11.. by turns: 14 to 13 to 12 (both 12: the first) to 11; then the other.
        int[] by = {0, 1, 1, 0, 0, 0, 1};
        for (int p = 0; p < 7; p++) {
            Check.due("server(" + p + ")", x.server(p), by[p]);
        }
        x.swap();
        Check.due("swapped: 1 is the first", x.server(1), 0);
        Check.due("swapped: 0 is the second", x.server(0), 1);
    }

    private static void nobodyServes() {
        TellerDays x = Check.bankOf("b5,20;y9,1;d5;d4;d1;p1;");
        int[] by = {Check.NONE, 0, Check.NONE, 0};
        for (int p = 0; p < 4; p++) {
            Check.due("server(" + p + ")", x.server(p), by[p]);
        }
        x.counter(0, 0);
        Check.due("all are shut", x.server(1), Check.NONE);
        Check.due("all are shut, a paying-in", x.server(3), Check.NONE);
    }

    private static void serverBad() {
        for (int paper : new int[] {MIN, -1, 7, 32, MAX}) {
            Twin.refused(Pasts::rich, "server(" + paper + ")", x -> x.server(paper), Check.BAD);
        }
        Twin.refused(Pasts::rich, "server(6), never there", x -> x.server(6), Check.BAD);
        Twin.refused(Pasts::none, "server(0), no BANK", x -> x.server(0), Check.BAD);
    }

    private static void serverOfOneThatLeft() {
        for (int paper = 0; paper < 4; paper++) {
            int left = paper;
            Twin.refused(Pasts::emptyQueue, "server(" + paper + ")", x -> x.server(left), Check.STATE);
        }
        TellerDays x = Check.bankOf("b0,20;y9,1;d5;d4;");
        x.dismiss();
        Check.due("sent away", x.server(0), Check.STATE);
        Check.due("yet there", x.server(1), 0);
    }

    private static void holds() {
        Check.due("empty", Check.bankOf("b0,20;y9,1;").holds(), 0);
        Check.due("the first is UNPAID", Check.bankOf("b0,20;y9,1;d10;d1;").holds(), 0);
        Check.due("the last is UNPAID", Check.bankOf("b0,20;y9,1;d5;d4;d1;").holds(), 2);
        Check.due("one in the midst is UNPAID", Check.bankOf("b0,20;y9,1;d5;d6;d4;").holds(), 1);
        Check.due("all seven", Check.bankOf("b0,20;y7,1;d1;d1;d1;d1;d1;d1;d1;").holds(), 7);
        TellerDays x = Check.bankOf("b0,20;y9,1;p5;");
        x.counter(0, 0);
        Check.due("shut", x.holds(), 0);
    }

    private static void infant() {
        Check.due("now, just INFANCY", Check.bankOf("b5,20;y6,1;y5,1;").infant(), 1);
        Check.due("now, less", Check.bankOf("b5,20;y6,1;y4,1;").infant(), 1);
        Check.due("of two now the first", Check.bankOf("b5,20;y5,1;y4,1;").infant(), 0);
        Check.due("behind the last TURN", Check.bankOf("b5,20;y9,1;y20,1;d11;d4;").infant(), 0);
        Check.due("earlier in time, not in number", Check.bankOf("b5,20;y9,1;y20,1;d15;d4;").infant(), 1);
        Check.due("INFANCY 0", Check.bankOf("b0,20;y9,1;d9;").infant(), 0);
        TellerDays shut = Check.bankOf("b5,20;y9,1;y5,1;");
        shut.counter(1, 0);
        Check.due("open or not", shut.infant(), 1);
    }

    private static void noInfant() {
        Check.due("one more than INFANCY", Check.bankOf("b5,20;y9,1;d3;").infant(), Check.NONE);
        Check.due("an empty queue", Check.bankOf("b5,20;y6,1;").infant(), Check.NONE);
        Check.due("UNPAID", Check.bankOf("b5,20;y9,1;d5;").infant(), Check.NONE);
    }

    private static void orderPaidAndLeft() {
        TellerDays x = Check.bankOf("b0,20;y5,1;d9;d5;p9;");
        // p9 first, then d9 and d5: all three, and nothing is left.
        Check.due("how many", x.order(-1), 3);
        Check.due("how much", x.order(-2), 0);
        TellerDays few = Check.bankOf("b0,20;y5,1;y3,1;d9;d4;d2;");
        Check.due("d9 is UNPAID", few.order(-1), 2);
        Check.due("5 and 3, less 4 and 2", few.order(-2), 2);
        TellerDays empty = Check.bankOf("b0,20;y5,1;y3,1;");
        Check.due("empty, how many", empty.order(-1), 0);
        Check.due("empty, how much", empty.order(-2), 8);
    }

    private static void orderKth() {
        TellerDays x = Check.bankOf("b0,20;y5,1;d9;d5;p9;");
        // 0 cannot be first, being UNPAID there; 1, 2, 0 is the first by numbers.
        int[] order = {1, 2, 0};
        for (int k = 0; k < 3; k++) {
            Check.due("order(" + k + ")", x.order(k), order[k]);
        }
        TellerDays seven = Check.bankOf("b0,20;y60,1;d1;d1;d1;d1;d1;d1;d1;");
        seven.swap();
        for (int k = 0; k < 7; k++) {
            Check.due("by numbers, order(" + k + ")", seven.order(k), k);
        }
    }

    private static void orderNotSoMany() {
        TellerDays x = Check.bankOf("b0,20;y5,1;d9;d5;p9;");
        for (int k : new int[] {3, 6, 7, 8, MAX}) {
            Check.due("order(" + k + ")", x.order(k), Check.NONE);
        }
        Check.due("empty", Check.bankOf("b0,20;y5,1;").order(0), Check.NONE);
        TellerDays seven = Check.bankOf("b0,20;y60,1;d1;d1;d1;d1;d1;d1;d1;");
        Check.due("of seven", seven.order(7), Check.NONE);
    }

    private static void orderBad() {
        Twin.refused(Pasts::rich, "order(-3)", x -> x.order(-3), Check.BAD);
        Twin.refused(Pasts::rich, "order(min)", x -> x.order(MIN), Check.BAD);
        Twin.refused(Pasts::emptyQueue, "order(-3), empty", x -> x.order(-3), Check.BAD);
    }

    private static void orderNoBank() {
        for (int k : new int[] {MIN, -3, -2, -1, 0, MAX}) {
            Twin.refused(Pasts::none, "order(" + k + ")", x -> x.order(k), Check.STATE);
        }
    }

    private static void shareLeft() {
        TellerDays x = Check.bankOf("b0,20;y20,1;y10,1;d4;d6;p3;");
        // 20 less 4 and 6, and 10 with 3: the poorest keeps 10; p3 to the first does as much, and comes first.
        Check.due("how much", x.share(-1), 10);
        Check.due("empty: the poorest now", Check.bankOf("b9,20;y20,1;y7,1;y8,1;").share(-1), 7);
        Check.due("0 is a way", Check.bankOf("b0,20;y9,1;d9;").share(-1), 0);
    }

    private static void shareWho() {
        TellerDays x = Check.bankOf("b0,20;y20,1;y10,1;d4;d6;p3;");
        for (int k = 0; k < 3; k++) {
            Check.due("share(" + k + ")", x.share(k), 0);
        }
        TellerDays y = Check.bankOf("b0,20;y9,1;y9,1;d3;d3;p1;");
        // 6 and 6, and one more to either; or 9 and 3: so one each, the first first; p1 to the first.
        int[] who = {0, 1, 0};
        for (int k = 0; k < 3; k++) {
            Check.due("by turns, share(" + k + ")", y.share(k), who[k]);
        }
        y.swap();
        Check.due("the k-th of THE QUEUE, not PAPER k", y.share(0), 0);
        TellerDays seven = Check.bankOf("b0,20;y60,1;d1;d1;d1;d1;d1;d1;d1;");
        Check.due("the seventh", seven.share(6), 0);
    }

    private static void shareNotSoMany() {
        TellerDays x = Check.bankOf("b0,20;y20,1;y10,1;d4;d6;p3;");
        for (int k : new int[] {3, 6, 7, 8, MAX}) {
            Check.due("share(" + k + ")", x.share(k), Check.NONE);
        }
        Check.due("empty", Check.bankOf("b0,20;y20,1;").share(0), Check.NONE);
        Check.due("of seven", Check.bankOf("b0,20;y60,1;d1;d1;d1;d1;d1;d1;d1;").share(7), Check.NONE);
    }

    private static void shareNoWay() {
        TellerDays x = Check.bankOf("b5,20;y9,1;y8,1;d4;d4;");
        Check.due("how much", x.share(-1), Check.NONE);
        Check.due("who", x.share(0), Check.NONE);
        Check.due("who is next", x.share(1), Check.NONE);
        Check.that("a way, with a day more", Check.bankOf("b5,20;y9,1;y9,1;d4;d4;").share(-1) == 5);
    }

    private static void shareBad() {
        Twin.refused(Pasts::rich, "share(-2)", x -> x.share(-2), Check.BAD);
        Twin.refused(Pasts::rich, "share(min)", x -> x.share(MIN), Check.BAD);
        Twin.refused(Pasts::emptyQueue, "share(-2), empty", x -> x.share(-2), Check.BAD);
    }

    private static void shareNoBank() {
        for (int k : new int[] {MIN, -2, -1, 0, MAX}) {
            Twin.refused(Pasts::none, "share(" + k + ")", x -> x.share(k), Check.STATE);
        }
    }

    private static void openCounters() {
        TellerDays x = Check.bankOf("b0,20;y9,1;y8,1;y7,1;y6,1;d9;d8;d7;d6;");
        Check.due("all four", x.open(0), 4);
        Check.due("all four, bits", x.open(1), 15);
        TellerDays one = Check.bankOf("b0,20;y1,1;y2,1;y3,1;y9,1;d9;");
        Check.due("one", one.open(0), 1);
        Check.due("the last", one.open(1), 8);
        TellerDays none = Check.bankOf("b0,20;y1,1;");
        Check.due("nobody is there: none", none.open(0), 0);
        Check.due("nobody is there: no bits", none.open(1), 0);
    }

    private static void openNone() {
        TellerDays x = Check.bankOf("b0,20;y9,1;y8,1;d10;");
        Check.due("how many", x.open(0), Check.NONE);
        Check.due("which", x.open(1), Check.NONE);
    }

    private static void cheap() {
        TellerDays x = Check.bankOf("b0,20;y9,1;n9,1;k9,9;");
        // To the young and the brown one 1, to the brisk one 1/2 and 1: 1, of several the first.
        Check.due("who, 1", x.cheap(1, 0), 0);
        Check.due("COST, 1", x.cheap(1, 1), 1);
        // 30, 9, 21/2 and 1.
        Check.due("who, 30", x.cheap(30, 0), 1);
        Check.due("COST, 30", x.cheap(30, 1), 9);
        Check.due("who, 12", x.cheap(12, 0), 2);
        Check.due("COST, 12", x.cheap(12, 1), 2);
    }

    private static void cheapBad() {
        for (int sum : new int[] {MIN, -1, 0, 31, MAX}) {
            Twin.refused(Pasts::rich, "cheap(" + sum + ", 0)", x -> x.cheap(sum, 0), Check.BAD);
        }
        choiceBad("cheap 1", (x, what) -> x.cheap(1, what));
    }

    private static void cheapNoBank() {
        choiceNoBank("cheap 1", (x, what) -> x.cheap(1, what));
        choiceNoBank("cheap 31", (x, what) -> x.cheap(31, what));
        choiceNoBank("cheap 0", (x, what) -> x.cheap(0, what));
    }

    private static void most() {
        Check.due("1", Check.bankOf("b5,20;y6,1;").most(), 1);
        Check.due("of two the greater", Check.bankOf("b5,20;y6,1;y9,1;").most(), 4);
        Check.due("CARE more", Check.bankOf("b5,20;c6,9;").most(), 10);
        Check.due("above 30", Check.bankOf("b5,20;y60,1;").most(), 55);
        Check.due("99 at most", Check.bankOf("b0,20;k60,1;").most(), 99);
    }

    private static void mostNone() {
        Check.due("INFANCY", Check.bankOf("b5,20;y5,1;n5,1;c5,9;").most(), Check.NONE);
        Check.due("a rosy one needs 3", Check.bankOf("b5,20;o7,9;").most(), Check.NONE);
        Check.due("a rosy one has 3", Check.bankOf("b5,20;o8,9;").most(), 10);
        TellerDays x = Check.bankOf("b5,20;y60,1;");
        x.counter(0, 0);
        Check.due("shut", x.most(), Check.NONE);
    }

    private static void twins() {
        TellerDays x = Check.bankOf("b0,20;y5,1;k5,2;o5,3;n5,4;");
        Check.due("all four", x.twins(0), 6);
        Check.due("0 and 1", x.twins(1), 1);
        TellerDays y = Check.bankOf("b0,20;y5,1;k6,2;o7,3;n7,4;");
        Check.due("one", y.twins(0), 1);
        Check.due("2 and 3", y.twins(1), 23);
        TellerDays z = Check.bankOf("b0,20;y5,1;k6,2;o6,3;n5,4;");
        Check.due("two", z.twins(0), 2);
        Check.due("0 and 3 ahead of 1 and 2", z.twins(1), 3);
        y.counter(2, 0);
        Check.due("open or not", y.twins(0), 1);
    }

    private static void noTwins() {
        TellerDays x = Check.bankOf("b0,20;y5,1;y6,1;");
        Check.due("how many", x.twins(0), 0);
        Check.due("the first", x.twins(1), Check.NONE);
        Check.due("one alone", Check.bankOf("b0,20;y5,1;").twins(1), Check.NONE);
    }
}
