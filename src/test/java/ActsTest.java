/** Promises 9 to 18, and 41 as far as ACTS go. */
public final class ActsTest {
    public static void main(String[] args) {
        costs();
        drawingIsServedByTheRichest();
        payingInIsTakenByThePoorest();
        weeksEnd();
        turnsAreServed();
        turnsEndAt999();
        counters();
        papersCome();
        firstIsSentAway();
        firstTwoAreSwapped();
        tellersAndPapersAreTold();
        actsAreUndone();
        only24ActsAreKept();
        Check.end();
    }

    private static void costs() {
        TellerDays c = Check.bankOf("b0,1;c60,5;k60,5;o60,5;y60,5;");
        int[] sums = {1, 5, 6, 7, 8, 9, 30};
        int[][] want = {{1, 1, 3, 1}, {1, 1, 3, 5}, {1, 1, 3, 6}, {2, 2, 4, 7}, {3, 2, 5, 8}, {4, 3, 6, 9}, {25, 13, 27, 30}};
        for (int s = 0; s < sums.length; s++) {
            for (int t = 0; t < 4; t++) {
                Check.due("cost(" + t + "," + sums[s] + ")", c.cost(t, sums[s]), want[s][t]);
            }
        }
        TellerDays n = Check.bankOf("b0,1;n60,5;");
        Check.due("brown 8", n.cost(0, 8), 8);
        Check.due("brown 9", n.cost(0, 9), 9);
        Check.due("brown 10", n.cost(0, 10), 9);
        Check.due("sum 0", n.cost(0, 0), Check.BAD);
        Check.due("sum 31", n.cost(0, 31), Check.BAD);
        Check.due("teller 1", n.cost(1, 1), Check.BAD);
        Check.due("teller -1", n.cost(-1, 1), Check.BAD);
    }

    private static void drawingIsServedByTheRichest() {
        TellerDays x = Check.bankOf("b5,20;y20,1;y30,1;y30,1;d25;d25;d16;d15;d1;");
        x.serve(1);
        Check.due("the first of the richest, to INFANCY", x.teller(1, 2), 5);
        x.serve(1);
        Check.due("the next", x.teller(2, 2), 5);
        x.serve(1);
        Check.due("nobody has so much", x.count(5), 1);
        x.serve(1);
        Check.due("just as much", x.teller(0, 2), 5);
        x.serve(1);
        Check.due("all have infancy", x.count(5), 2);
        Check.due("paid", x.count(4), 3);
        TellerDays k = Check.bankOf("b0,20;y20,1;k10,2;d22;");
        k.serve(1);
        Check.due("the richest cannot, the brisk one can only below 0", k.count(5), 1);
        TellerDays b = Check.bankOf("b0,20;y20,1;k12,2;d22;");
        b.serve(1);
        Check.due("the brisk one can", b.teller(1, 2), 1);
    }

    private static void payingInIsTakenByThePoorest() {
        TellerDays x = Check.bankOf("b0,20;y60,1;y50,1;y50,1;p30;p30;p30;p30;p30;");
        x.serve(1);
        Check.due("the first of the poorest", x.teller(1, 2), 80);
        x.serve(2);
        Check.due("then the next", x.teller(2, 2), 80);
        Check.due("then the next", x.teller(0, 2), 90);
        x.serve(1);
        Check.due("99 at most", x.teller(1, 2), 99);
        x.counter(0, 0);
        x.counter(1, 0);
        x.counter(2, 0);
        x.serve(1);
        Check.due("no counter is open", x.count(5), 1);
        Check.due("paid", x.count(4), 4);
    }

    private static void weeksEnd() {
        TellerDays x = Check.bankOf("b0,3;n20,1;y20,1;n60,1;d9;d9;");
        x.counter(2, 0);
        x.serve(2);
        Check.due("before", x.teller(0, 2), 11);
        Check.due("the young one", x.teller(1, 2), 11);
        x.serve(1);
        Check.due("the week's end", x.teller(0, 2), 12);
        Check.due("a young one has no more", x.teller(1, 2), 11);
        Check.due("as told stays", x.teller(2, 2), 60);
        x.serve(2);
        Check.due("not yet", x.teller(0, 2), 12);
        x.serve(1);
        Check.due("next week", x.teller(0, 2), 13);
        x.serve(24);
        Check.due("not above what was told", x.teller(0, 2), 20);
        TellerDays shut = Check.bankOf("b0,1;n20,1;y1,1;d9;");
        shut.serve(1);
        Check.due("in the same TURN", shut.teller(0, 2), 12);
        shut.counter(0, 0);
        shut.serve(1);
        Check.due("a shut one, too", shut.teller(0, 2), 13);
    }

    private static void turnsAreServed() {
        TellerDays x = Check.bankOf("b0,20;y60,1;d1;d2;d3;");
        Check.due("two", x.serve(2), 1);
        Check.due("TURN", x.count(3), 2);
        Check.due("ACTS", x.count(6), 2);
        Check.due("beyond THE QUEUE", x.serve(5), 0);
        Check.due("TURN", x.count(3), 7);
        Check.due("ACTS", x.count(6), 7);
        Check.due("paid", x.count(4), 3);
        Check.due("unpaid", x.count(5), 0);
        Check.due("0", x.serve(0), Check.BAD);
        Check.due("25", x.serve(25), Check.BAD);
        Check.due("TURN stays", x.count(3), 7);
    }

    private static void turnsEndAt999() {
        TellerDays x = Check.bankOf("b0,20;y60,1;");
        for (int k = 0; k < 41; k++) {
            x.serve(24);
        }
        Check.due("TURN", x.count(3), 984);
        Check.due("16 more", x.serve(16), Check.FULL);
        Check.due("BAD ahead of FULL", x.serve(25), Check.BAD);
        Check.due("TURN stays", x.count(3), 984);
        Check.due("15 more", x.serve(15), 0);
        Check.due("TURN", x.count(3), 999);
        Check.due("one more", x.serve(1), Check.FULL);
        Check.due("foretold yet", x.ahead(0, 60), 60);
    }

    private static void counters() {
        TellerDays x = Check.bankOf("b0,20;y60,1;y50,1;y40,1;");
        Check.due("open already", x.counter(0, 1), Check.STATE);
        Check.due("shut 1", x.counter(1, 0), 5);
        Check.due("shut already", x.counter(1, 0), Check.STATE);
        Check.due("shut 0", x.counter(0, 0), 4);
        Check.due("open 1", x.counter(1, 1), 6);
        Check.due("ACTS", x.count(6), 3);
        Check.due("no such one", x.counter(3, 0), Check.BAD);
        Check.due("below", x.counter(-1, 0), Check.BAD);
        Check.due("2", x.counter(0, 2), Check.BAD);
        Check.due("-1", x.counter(0, -1), Check.BAD);
        x.come(1, 5);
        x.serve(1);
        Check.due("a shut one does not serve", x.teller(0, 2), 60);
        Check.due("the richest open one does", x.teller(1, 2), 45);
    }

    private static void papersCome() {
        TellerDays x = Check.bankOf("b0,20;y60,1;d1;p2;d3;");
        Check.due("the next number", x.come(0, 30), 3);
        x.serve(2);
        Check.due("the least that is free", x.come(1, 7), 0);
        Check.due("its SUM", x.paper(0, 0), 7);
        Check.due("its place", x.paper(0, 2), 2);
        Check.due("one that left", x.paper(1, 2), Check.NONE);
        Check.due("1", x.come(1, 1), 1);
        Check.due("4", x.come(1, 1), 4);
        Check.due("5", x.come(1, 1), 5);
        Check.due("6", x.come(1, 1), 6);
        Check.due("FULL", x.come(1, 1), Check.FULL);
        Check.due("BAD ahead of FULL", x.come(2, 1), Check.BAD);
        Check.due("sum 0", x.come(1, 0), Check.BAD);
        Check.due("sum 31", x.come(1, 31), Check.BAD);
        Check.due("draws -1", x.come(-1, 1), Check.BAD);
        int[] queue = {2, 3, 0, 1, 4, 5, 6, Check.NONE};
        for (int k = 0; k < queue.length; k++) {
            Check.due("queue " + k, x.queue(k), queue[k]);
        }
        Check.due("queue -1", x.queue(-1), Check.BAD);
        Check.due("queue max", x.queue(Integer.MAX_VALUE), Check.NONE);
    }

    private static void firstIsSentAway() {
        TellerDays x = Check.bankOf("b0,20;y60,1;d1;p2;");
        Check.due("the first", x.dismiss(), 0);
        Check.due("UNPAID", x.count(5), 1);
        Check.due("TURN", x.count(3), 0);
        Check.due("in THE QUEUE", x.count(2), 1);
        Check.due("the next", x.dismiss(), 1);
        Check.due("none", x.dismiss(), Check.STATE);
        Check.due("LEFT", x.teller(0, 2), 60);
        Check.due("ACTS", x.count(6), 2);
    }

    private static void firstTwoAreSwapped() {
        TellerDays x = Check.bankOf("b0,20;y60,1;d1;p2;d3;");
        Check.due("first", x.swap(), 1);
        Check.due("second", x.queue(1), 0);
        Check.due("third", x.queue(2), 2);
        Check.due("back", x.swap(), 0);
        x.serve(2);
        Check.due("one alone", x.swap(), Check.STATE);
        x.serve(1);
        Check.due("none", x.swap(), Check.STATE);
        Check.due("ACTS", x.count(6), 5);
    }

    private static void tellersAndPapersAreTold() {
        TellerDays x = Check.bankOf("b2,20;y30,4;c20,9;d6;p3;d20;");
        x.serve(2);
        int[][] want = {{30, 4, 24, 1, 1}, {20, 9, 23, 1, 1}};
        for (int t = 0; t < 2; t++) {
            for (int what = 0; what < 5; what++) {
                Check.due("teller(" + t + "," + what + ")", x.teller(t, what), want[t][what]);
            }
        }
        Check.due("what 5", x.teller(0, 5), Check.BAD);
        Check.due("what -1", x.teller(0, -1), Check.BAD);
        Check.due("teller 2", x.teller(2, 0), Check.BAD);
        Check.due("teller -1", x.teller(-1, 0), Check.BAD);
        int[][] papers = {{6, 1, Check.NONE}, {3, 0, Check.NONE}, {20, 1, 0}};
        for (int p = 0; p < 3; p++) {
            for (int what = 0; what < 3; what++) {
                Check.due("paper(" + p + "," + what + ")", x.paper(p, what), papers[p][what]);
            }
        }
        Check.due("never there", x.paper(3, 0), Check.BAD);
        Check.due("7", x.paper(7, 0), Check.BAD);
        Check.due("-1", x.paper(-1, 0), Check.BAD);
        Check.due("what 3", x.paper(0, 3), Check.BAD);
        Check.due("what -1", x.paper(0, -1), Check.BAD);
        for (int bad : Check.EXTREMES) {
            Check.due("count " + bad, x.count(bad), Check.BAD);
        }
        Check.due("count 8", x.count(8), Check.BAD);
    }

    private static void actsAreUndone() {
        TellerDays x = Check.bankOf("b0,1;n30,1;y20,1;d9;p3;d1;");
        x.serve(1);
        x.counter(1, 0);
        x.swap();
        Check.due("comes in 0's place", x.come(0, 25), 0);
        x.dismiss();
        Check.due("ACTS", x.count(6), 5);
        Check.due("dismiss undone", x.undo(), 4);
        Check.due("unpaid", x.count(5), 0);
        Check.due("first", x.queue(0), 2);
        Check.due("come undone", x.undo(), 3);
        Check.due("the SUM before", x.paper(0, 0), 9);
        Check.due("a drawing before", x.paper(0, 1), 1);
        Check.due("swap undone", x.undo(), 2);
        Check.due("first", x.queue(0), 1);
        Check.due("counter undone", x.undo(), 1);
        Check.due("open", x.teller(1, 3), 1);
        Check.due("turn undone", x.undo(), 0);
        Check.due("LEFT", x.teller(0, 2), 30);
        Check.due("served", x.teller(0, 4), 0);
        Check.due("TURN", x.count(3), 0);
        Check.due("paid", x.count(4), 0);
        Check.due("queue", x.queue(0), 0);
        Check.due("none", x.undo(), Check.STATE);
        x.come(1, 4);
        x.undo();
        Check.due("as if it never was there", x.paper(3, 0), Check.BAD);
    }

    private static void only24ActsAreKept() {
        TellerDays x = Check.bankOf("b0,20;y60,1;d1;d1;d1;d1;d1;d1;d1;");
        x.serve(7);
        x.serve(24);
        Check.due("ACTS", x.count(6), 24);
        for (int k = 23; k >= 0; k--) {
            Check.due("undo", x.undo(), k);
        }
        Check.due("the oldest are forgotten", x.undo(), Check.STATE);
        Check.due("TURN", x.count(3), 7);
        Check.due("LEFT", x.teller(0, 2), 53);
        x.come(1, 3);
        Check.due("and again", x.undo(), 0);
    }
}
