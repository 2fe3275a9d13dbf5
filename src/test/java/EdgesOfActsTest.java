/** Promises 10 to 18, sentence by sentence. */
public final class EdgesOfActsTest {
    public static void main(String[] args) {
        Edge.of(10, "n TURNS (1 to 24)", EdgesOfActsTest::turnsFrom1To24);
        Edge.of(10, "an ACT each", EdgesOfActsTest::anActEach);
        Edge.of(10, "how many are in THE QUEUE then.", EdgesOfActsTest::howManyThen);
        Edge.of(10, "BAD;", EdgesOfActsTest::serveBad);
        Edge.of(10, "STATE: no BANK (ahead of BAD);", EdgesOfActsTest::serveNoBank);
        Edge.of(10, "FULL: TURN would be above 999.", EdgesOfActsTest::turnAbove999);

        Edge.of(11, "A counter is opened (1), or shut (0)", EdgesOfActsTest::openedOrShut);
        Edge.of(11, "which are open (bits).", EdgesOfActsTest::whichAreOpen);
        Edge.of(11, "BAD;", EdgesOfActsTest::counterBad);
        Edge.of(11, "STATE: it is so.", EdgesOfActsTest::counterIsSo);

        Edge.of(12, "A PAPER comes (1 a drawing, 0 a paying-in; SUM 1 to 30)", EdgesOfActsTest::paperComes);
        Edge.of(12, "its number.", EdgesOfActsTest::itsNumber);
        Edge.of(12, "BAD;", EdgesOfActsTest::comeBad);
        Edge.of(12, "STATE: no BANK (ahead of BAD);", EdgesOfActsTest::comeNoBank);
        Edge.of(12, "FULL: 7 are there.", EdgesOfActsTest::sevenAreThere);

        Edge.of(13, "The first one is sent away: which.", EdgesOfActsTest::sentAway);
        Edge.of(13, "STATE: no BANK", EdgesOfActsTest::dismissNoBank);
        Edge.of(13, "THE QUEUE is empty.", EdgesOfActsTest::dismissNobody);

        Edge.of(14, "The first two are swapped: which is first then.", EdgesOfActsTest::swapped);
        Edge.of(14, "STATE: no BANK", EdgesOfActsTest::swapNoBank);
        Edge.of(14, "there are not two.", EdgesOfActsTest::notTwo);

        Edge.of(15, "Of a TELLER: 0 DAYS as told, 1 CARE", EdgesOfActsTest::daysAndCare);
        Edge.of(15, "2 what he has LEFT, 3 whether open (1, 0), 4 PAPERS he served (a number).", EdgesOfActsTest::leftOpenServed);
        Edge.of(15, "BAD.", EdgesOfActsTest::tellerBad);

        Edge.of(16, "Of a PAPER (0 to 6): 0 SUM, 1 whether a drawing (1, 0)", EdgesOfActsTest::sumAndDrawing);
        Edge.of(16, "2 its place in THE QUEUE (0 on;", EdgesOfActsTest::itsPlace);
        Edge.of(16, "NONE: it is not in it).", EdgesOfActsTest::notInIt);
        Edge.of(16, "BAD: it never was there, too.", EdgesOfActsTest::neverThere);

        Edge.of(17, "COST of a drawing of SUM (1 to 30).", EdgesOfActsTest::costFrom1To30);
        Edge.of(17, "BAD.", EdgesOfActsTest::costBad);

        Edge.of(18, "The k-th PAPER of THE QUEUE (0 on)", EdgesOfActsTest::kthPaper);
        Edge.of(18, "NONE.", EdgesOfActsTest::noKthPaper);
        Edge.of(18, "BAD: below 0;", EdgesOfActsTest::belowTheFirst);
        Edge.of(18, "STATE: no BANK (ahead of BAD).", EdgesOfActsTest::queueNoBank);
        Edge.end(10, 18);
    }

    private static void turnsFrom1To24() {
        TellerDays x = Check.bankOf("b0,20;y30,1;");
        x.serve(1);
        Check.due("1", x.count(3), 1);
        x.serve(24);
        Check.due("24 more", x.count(3), 25);
    }

    private static void anActEach() {
        TellerDays x = Check.bankOf("b0,20;y30,1;d1;d2;");
        x.serve(3);
        Check.due("three ACTS", x.count(6), 3);
        x.undo();
        Check.due("one TURN is undone", x.count(3), 2);
        x.serve(24);
        Check.due("24 are kept", x.count(6), 24);
    }

    private static void howManyThen() {
        TellerDays x = Check.bankOf("b0,20;y3,1;d1;d9;p2;");
        Check.due("serve(1)", x.serve(1), 2);
        Check.due("UNPAID, too", x.serve(1), 1);
        Check.due("the last", x.serve(1), 0);
        Check.due("none is there", x.serve(1), 0);
        Check.due("more TURNS than PAPERS", Check.bankOf("b0,20;y3,1;d1;").serve(24), 0);
    }

    private static void serveBad() {
        for (int n : new int[] {Integer.MIN_VALUE, -1, 0, 25, Integer.MAX_VALUE}) {
            Twin.refused(Pasts::rich, "serve(" + n + ")", x -> x.serve(n), Check.BAD);
            Twin.refused(Pasts::turn999, "serve(" + n + "), ahead of FULL", x -> x.serve(n), Check.BAD);
        }
    }

    private static void serveNoBank() {
        for (int n : new int[] {Integer.MIN_VALUE, 0, 1, 24, 25}) {
            Twin.refused(Pasts::none, "serve(" + n + ")", x -> x.serve(n), Check.STATE);
        }
    }

    private static void turnAbove999() {
        TellerDays x = Check.bankOf("b0,20;y30,1;");
        for (int k = 0; k < 41; k++) {
            x.serve(24);
        }
        Check.due("984 and 16", x.serve(16), Check.FULL);
        Check.due("984 and 24", x.serve(24), Check.FULL);
        Check.due("none of these", x.count(3), 984);
        Check.due("984 and 15", x.serve(15), 0);
        Check.due("999", x.count(3), 999);
        Twin.refused(Pasts::turn999, "serve(1)", y -> y.serve(1), Check.FULL);
        Twin.refused(Pasts::turn999, "serve(24)", y -> y.serve(24), Check.FULL);
        x.undo();
        Check.due("998 and 1", x.serve(1), 0);
        Check.due("other ACTS go on", x.counter(0, 0), 0);
    }

    private static void openedOrShut() {
        TellerDays x = Check.bankOf("b0,20;y30,1;y20,1;");
        x.counter(0, 0);
        Check.due("shut", x.teller(0, 3), 0);
        Check.due("the other stays", x.teller(1, 3), 1);
        x.counter(0, 1);
        Check.due("opened", x.teller(0, 3), 1);
        Check.due("an ACT each", x.count(6), 2);
    }

    private static void whichAreOpen() {
        TellerDays x = Check.bankOf("b0,20;y1,1;y2,1;y3,1;y4,1;");
        Check.due("but 3", x.counter(3, 0), 7);
        Check.due("but 0", x.counter(0, 0), 6);
        Check.due("2 alone", x.counter(1, 0), 4);
        Check.due("none", x.counter(2, 0), 0);
        Check.due("3 alone", x.counter(3, 1), 8);
    }

    private static void counterBad() {
        for (int teller : new int[] {Integer.MIN_VALUE, -1, 3, 4, 32, Integer.MAX_VALUE}) {
            Twin.refused(Pasts::rich, "counter(" + teller + ", 0)", x -> x.counter(teller, 0), Check.BAD);
            Twin.refused(Pasts::rich, "counter(" + teller + ", 1)", x -> x.counter(teller, 1), Check.BAD);
        }
        for (int on : new int[] {Integer.MIN_VALUE, -1, 2, Integer.MAX_VALUE}) {
            Twin.refused(Pasts::rich, "counter(0, " + on + ")", x -> x.counter(0, on), Check.BAD);
            Twin.refused(Pasts::rich, "counter(2, " + on + "), shut", x -> x.counter(2, on), Check.BAD);
        }
        Twin.refused(Pasts::none, "counter(0, 1), no BANK", x -> x.counter(0, 1), Check.BAD);
    }

    private static void counterIsSo() {
        Twin.refused(Pasts::rich, "counter(0, 1)", x -> x.counter(0, 1), Check.STATE);
        Twin.refused(Pasts::rich, "counter(2, 0)", x -> x.counter(2, 0), Check.STATE);
    }

    private static void paperComes() {
        TellerDays x = Check.bankOf("b0,20;y30,1;");
        int[][] papers = {{1, 1}, {0, 1}, {1, 30}, {0, 30}};
        for (int k = 0; k < papers.length; k++) {
            x.come(papers[k][0], papers[k][1]);
            Check.due("a drawing", x.paper(k, 1), papers[k][0]);
            Check.due("SUM", x.paper(k, 0), papers[k][1]);
            Check.due("behind the others", x.queue(k), k);
        }
        Check.due("an ACT each", x.count(6), 4);
    }

    private static void itsNumber() {
        TellerDays x = Check.bankOf("b0,20;y30,1;d1;d2;d3;");
        Check.due("the fourth", x.come(1, 1), 3);
        x.serve(2);
        Check.due("0 left", x.come(1, 1), 0);
        Check.due("1 left", x.come(1, 1), 1);
        Check.due("4 never was there", x.come(1, 1), 4);
        x.dismiss();
        Check.due("2 was sent away", x.come(1, 1), 2);
    }

    private static void comeBad() {
        for (int draws : new int[] {Integer.MIN_VALUE, -1, 2, Integer.MAX_VALUE}) {
            Twin.refused(Pasts::rich, "come(" + draws + ", 1)", x -> x.come(draws, 1), Check.BAD);
            Twin.refused(Pasts::fullQueue, "come(" + draws + ", 1), ahead of FULL", x -> x.come(draws, 1), Check.BAD);
        }
        for (int sum : new int[] {Integer.MIN_VALUE, -1, 0, 31, Integer.MAX_VALUE}) {
            Twin.refused(Pasts::rich, "come(1, " + sum + ")", x -> x.come(1, sum), Check.BAD);
            Twin.refused(Pasts::fullQueue, "come(0, " + sum + "), ahead of FULL", x -> x.come(0, sum), Check.BAD);
        }
    }

    private static void comeNoBank() {
        Twin.refused(Pasts::none, "come(1, 1)", x -> x.come(1, 1), Check.STATE);
        Twin.refused(Pasts::none, "come(2, 1)", x -> x.come(2, 1), Check.STATE);
        Twin.refused(Pasts::none, "come(1, 31)", x -> x.come(1, 31), Check.STATE);
    }

    private static void sevenAreThere() {
        TellerDays x = Check.bankOf("b0,20;y30,1;d1;d1;d1;d1;d1;d1;");
        Check.due("the seventh", x.come(1, 1), 6);
        Check.due("one more", x.come(1, 1), Check.FULL);
        Twin.refused(Pasts::fullQueue, "come(1, 1)", y -> y.come(1, 1), Check.FULL);
        Twin.refused(Pasts::fullQueue, "come(0, 30)", y -> y.come(0, 30), Check.FULL);
        x.serve(1);
        Check.due("room again", x.come(1, 1), 0);
    }

    private static void sentAway() {
        TellerDays x = Check.bankOf("b0,1;n30,1;d5;p6;d7;");
        x.swap();
        Check.due("the first", x.dismiss(), 1);
        Check.due("the next is first", x.queue(0), 0);
        Check.due("UNPAID", x.count(5), 1);
        Check.due("no TURN", x.count(3), 0);
        Check.due("no DAYS", x.teller(0, 2), 30);
        Check.due("nobody served", x.teller(0, 4), 0);
        Check.due("an ACT each", x.count(6), 2);
    }

    private static void dismissNoBank() {
        Twin.refused(Pasts::none, "dismiss()", TellerDays::dismiss, Check.STATE);
    }

    private static void dismissNobody() {
        Twin.refused(Pasts::emptyQueue, "dismiss()", TellerDays::dismiss, Check.STATE);
        TellerDays x = new TellerDays();
        Pasts.oneInQueue(x);
        Check.that("one is there", x.dismiss() >= 0);
        Check.due("none is there", x.dismiss(), Check.STATE);
    }

    private static void swapped() {
        TellerDays x = Check.bankOf("b0,20;y30,1;d5;p6;d7;");
        Check.due("first", x.swap(), 1);
        int[] queue = {1, 0, 2};
        for (int k = 0; k < 3; k++) {
            Check.due("queue(" + k + ")", x.queue(k), queue[k]);
        }
        x.serve(1);
        Check.due("of two", x.swap(), 2);
        Check.due("the last", x.queue(1), 0);
        Check.due("an ACT each", x.count(6), 3);
    }

    private static void swapNoBank() {
        Twin.refused(Pasts::none, "swap()", TellerDays::swap, Check.STATE);
    }

    private static void notTwo() {
        Twin.refused(Pasts::oneInQueue, "swap(), one", TellerDays::swap, Check.STATE);
        Twin.refused(Pasts::emptyQueue, "swap(), none", TellerDays::swap, Check.STATE);
    }

    private static void daysAndCare() {
        TellerDays x = Check.bankOf("b0,20;y0,1;k60,9;d9;p3;");
        x.serve(2);
        int[][] want = {{0, 1}, {60, 9}};
        for (int t = 0; t < 2; t++) {
            Check.due("DAYS of " + t, x.teller(t, 0), want[t][0]);
            Check.due("CARE of " + t, x.teller(t, 1), want[t][1]);
        }
    }

    private static void leftOpenServed() {
        TellerDays x = Check.bankOf("b0,20;y10,1;y50,1;d9;p3;p4;d30;");
        x.serve(4);
        x.counter(1, 0);
        // d9 by 1: 41; p3, p4 by 0: 17; d30 by 1: 11.
        int[][] want = {{17, 1, 2}, {11, 0, 2}};
        for (int t = 0; t < 2; t++) {
            for (int what = 2; what < 5; what++) {
                Check.due("teller(" + t + ", " + what + ")", x.teller(t, what), want[t][what - 2]);
            }
        }
        Check.due("none served", Check.bankOf("b0,20;y10,1;").teller(0, 4), 0);
    }

    private static void tellerBad() {
        for (int teller : new int[] {Integer.MIN_VALUE, -1, 3, 4, Integer.MAX_VALUE}) {
            Twin.refused(Pasts::rich, "teller(" + teller + ", 0)", x -> x.teller(teller, 0), Check.BAD);
        }
        for (int what : new int[] {Integer.MIN_VALUE, -1, 5, Integer.MAX_VALUE}) {
            Twin.refused(Pasts::rich, "teller(0, " + what + ")", x -> x.teller(0, what), Check.BAD);
        }
        Twin.refused(Pasts::none, "teller(0, 0), no BANK", x -> x.teller(0, 0), Check.BAD);
    }

    private static void sumAndDrawing() {
        TellerDays x = Check.bankOf("b0,20;y60,1;d30;p1;d1;p30;d2;p3;d4;");
        int[][] want = {{30, 1}, {1, 0}, {1, 1}, {30, 0}, {2, 1}, {3, 0}, {4, 1}};
        for (int p = 0; p < 7; p++) {
            Check.due("SUM of " + p, x.paper(p, 0), want[p][0]);
            Check.due("a drawing: " + p, x.paper(p, 1), want[p][1]);
        }
        x.serve(1);
        Check.due("SUM of one that left", x.paper(0, 0), 30);
        Check.due("a drawing that left", x.paper(0, 1), 1);
    }

    private static void itsPlace() {
        TellerDays x = Check.bankOf("b0,20;y60,1;d1;d1;d1;d1;d1;d1;d1;");
        Check.due("the first", x.paper(0, 2), 0);
        Check.due("the last", x.paper(6, 2), 6);
        x.serve(1);
        x.swap();
        Check.due("1 behind 2", x.paper(1, 2), 1);
        Check.due("2", x.paper(2, 2), 0);
        x.come(1, 1);
        Check.due("0 is the last", x.paper(0, 2), 6);
    }

    private static void notInIt() {
        TellerDays x = Check.bankOf("b0,20;y60,1;d1;d1;");
        x.serve(1);
        Check.due("served", x.paper(0, 2), Check.NONE);
        x.dismiss();
        Check.due("sent away", x.paper(1, 2), Check.NONE);
    }

    private static void neverThere() {
        TellerDays x = Check.bankOf("b0,20;y60,1;d1;d1;");
        for (int what = 0; what < 3; what++) {
            Check.due("paper(2, " + what + ")", x.paper(2, what), Check.BAD);
        }
        x.come(1, 9);
        Check.due("it came", x.paper(2, 0), 9);
        Check.read(x, "b0,20;y60,1;d1;");
        Check.due("not in this BANK", x.paper(1, 0), Check.BAD);
        for (int paper : new int[] {Integer.MIN_VALUE, -1, 5, 6, 7, 32, Integer.MAX_VALUE}) {
            Twin.refused(Pasts::rich, "paper(" + paper + ", 0)", y -> y.paper(paper, 0), Check.BAD);
        }
        for (int what : new int[] {Integer.MIN_VALUE, -1, 3, Integer.MAX_VALUE}) {
            Twin.refused(Pasts::rich, "paper(0, " + what + ")", y -> y.paper(0, what), Check.BAD);
        }
        Twin.refused(Pasts::none, "paper(0, 0), no BANK", y -> y.paper(0, 0), Check.BAD);
    }

    private static void costFrom1To30() {
        TellerDays x = Check.bankOf("b0,20;y60,1;n60,1;");
        Check.due("1", x.cost(0, 1), 1);
        Check.due("30", x.cost(0, 30), 30);
        Check.due("30 of a brown one", x.cost(1, 30), 9);
        x.counter(0, 0);
        Check.due("shut", x.cost(0, 30), 30);
        Check.due("more than he has", Check.bankOf("b0,20;y0,1;").cost(0, 30), 30);
    }

    private static void costBad() {
        for (int teller : new int[] {Integer.MIN_VALUE, -1, 3, 4, Integer.MAX_VALUE}) {
            Twin.refused(Pasts::rich, "cost(" + teller + ", 1)", x -> x.cost(teller, 1), Check.BAD);
        }
        for (int sum : new int[] {Integer.MIN_VALUE, -1, 0, 31, Integer.MAX_VALUE}) {
            Twin.refused(Pasts::rich, "cost(0, " + sum + ")", x -> x.cost(0, sum), Check.BAD);
        }
        Twin.refused(Pasts::none, "cost(0, 1), no BANK", x -> x.cost(0, 1), Check.BAD);
    }

    private static void kthPaper() {
        TellerDays x = Check.bankOf("b0,20;y60,1;d1;d1;d1;d1;d1;d1;d1;");
        x.swap();
        int[] queue = {1, 0, 2, 3, 4, 5, 6};
        for (int k = 0; k < 7; k++) {
            Check.due("queue(" + k + ")", x.queue(k), queue[k]);
        }
    }

    private static void noKthPaper() {
        TellerDays x = Check.bankOf("b0,20;y60,1;d1;d1;");
        for (int k : new int[] {2, 6, 7, 8, Integer.MAX_VALUE}) {
            Check.due("queue(" + k + ")", x.queue(k), Check.NONE);
        }
        x.serve(2);
        Check.due("empty", x.queue(0), Check.NONE);
    }

    private static void belowTheFirst() {
        Twin.refused(Pasts::rich, "queue(-1)", x -> x.queue(-1), Check.BAD);
        Twin.refused(Pasts::rich, "queue(min)", x -> x.queue(Integer.MIN_VALUE), Check.BAD);
        Twin.refused(Pasts::emptyQueue, "queue(-1), empty", x -> x.queue(-1), Check.BAD);
    }

    private static void queueNoBank() {
        Twin.refused(Pasts::none, "queue(-1)", x -> x.queue(-1), Check.STATE);
        Twin.refused(Pasts::none, "queue(0)", x -> x.queue(0), Check.STATE);
    }
}
