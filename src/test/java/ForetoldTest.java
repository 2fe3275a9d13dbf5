/** Promises 19 to 29: what is foretold of THE QUEUE as it stands. */
public final class ForetoldTest {
    public static void main(String[] args) {
        aheadAndWaiting();
        servers();
        howLongItHolds();
        infants();
        orders();
        ordersOfEqualsGoByNumbers();
        shares();
        sharesKnowNoTurns();
        fewestCounters();
        cheapest();
        greatestDrawing();
        twins();
        foundAnewWhenTheBankChanges();
        Check.end();
    }

    private static void aheadAndWaiting() {
        TellerDays x = Check.bankOf("b0,2;n30,1;y20,1;d9;p3;d30;d1;");
        int[] brown = {30, 21, 22, 13, 14, 14, 15};
        int[] young = {20, 20, 23, 23, 22, 22, 22};
        int[] bits = {15, 14, 12, 8, 0, 0, 0};
        for (int n = 0; n < 7; n++) {
            Check.due("ahead(0," + n + ")", x.ahead(0, n), brown[n]);
            Check.due("ahead(1," + n + ")", x.ahead(1, n), young[n]);
            Check.due("waiting(" + n + ")", x.waiting(n), bits[n]);
        }
        Check.due("60", x.ahead(0, 60), 30);
        Check.due("61", x.ahead(0, 61), Check.BAD);
        Check.due("-1", x.ahead(0, -1), Check.BAD);
        Check.due("teller 2", x.ahead(2, 0), Check.BAD);
        Check.due("waiting 61", x.waiting(61), Check.BAD);
        Check.due("waiting -1", x.waiting(-1), Check.BAD);
        Check.due("nothing changes", x.count(3), 0);
        Check.due("nothing changes", x.teller(0, 2), 30);
        Check.due("no ACT", x.count(6), 0);
    }

    private static void servers() {
        TellerDays x = Check.bankOf("b0,2;n30,1;y20,1;d9;p3;d30;d1;");
        int[] by = {0, 1, 0, 1};
        for (int p = 0; p < 4; p++) {
            Check.due("server(" + p + ")", x.server(p), by[p]);
        }
        Check.due("never there", x.server(4), Check.BAD);
        Check.due("7", x.server(7), Check.BAD);
        Check.due("-1", x.server(-1), Check.BAD);
        x.serve(1);
        Check.due("not in THE QUEUE", x.server(0), Check.STATE);
        TellerDays none = Check.bankOf("b0,1;y5,1;d6;d4;");
        Check.due("nobody", none.server(0), Check.NONE);
        Check.due("the next one", none.server(1), 0);
    }

    private static void howLongItHolds() {
        TellerDays x = Check.bankOf("b2,20;y9,1;d3;p1;d5;d1;p4;d1;");
        Check.due("ahead of d1", x.holds(), 3);
        x.serve(3);
        Check.due("at once", x.holds(), 0);
        x.serve(1);
        Check.due("all", x.holds(), 2);
        x.serve(2);
        Check.due("empty", x.holds(), 0);
    }

    private static void infants() {
        TellerDays x = Check.bankOf("b5,20;y20,1;y12,1;d6;d9;d7;d2;");
        Check.due("by the second, to 5", x.infant(), 0);
        Check.due("now", Check.bankOf("b5,20;y6,1;y5,1;y4,1;").infant(), 1);
        Check.due("none", Check.bankOf("b5,20;y8,1;y6,1;d2;").infant(), Check.NONE);
        Check.due("behind the last", Check.bankOf("b5,20;y8,1;y6,1;d3;").infant(), 0);
        Check.due("the week's end helps him", Check.bankOf("b5,1;n8,1;d3;").infant(), Check.NONE);
    }

    private static void orders() {
        TellerDays x = Check.bankOf("b0,20;y10,1;d20;p15;d5;");
        Check.due("most", x.order(-1), 3);
        Check.due("LEFT", x.order(-2), 0);
        int[] by = {1, 0, 2, Check.NONE};
        for (int k = 0; k < by.length; k++) {
            Check.due("order(" + k + ")", x.order(k), by[k]);
        }
        Check.due("max", x.order(Integer.MAX_VALUE), Check.NONE);
        Check.due("-3", x.order(-3), Check.BAD);
        Check.due("nothing changes", x.queue(0), 0);
        TellerDays cap = Check.bankOf("b0,20;y60,1;p30;p30;d20;");
        Check.due("no SUM lost by 99", cap.order(-2), 99);
        Check.due("the first by numbers", cap.order(0), 0);
        TellerDays empty = Check.bankOf("b0,20;y60,1;y7,1;");
        Check.due("empty, most", empty.order(-1), 0);
        Check.due("empty, LEFT", empty.order(-2), 67);
        Check.due("empty, first", empty.order(0), Check.NONE);
        TellerDays shut = Check.bankOf("b0,20;y60,1;d7;p3;");
        shut.counter(0, 0);
        Check.due("shut", shut.order(-1), 0);
        Check.due("shut, LEFT", shut.order(-2), 60);
        Check.due("shut, first", shut.order(0), 0);
    }

    private static void ordersOfEqualsGoByNumbers() {
        TellerDays x = Check.bankOf("b0,20;y60,1;d1;d1;d1;");
        x.serve(2);
        x.come(1, 1);
        x.come(1, 1);
        Check.due("queue", x.queue(0), 2);
        for (int k = 0; k < 3; k++) {
            Check.due("order(" + k + ")", x.order(k), k);
        }
    }

    private static void shares() {
        TellerDays x = Check.bankOf("b0,20;y20,1;y10,1;d4;p2;d6;");
        Check.due("the poorest keeps", x.share(-1), 10);
        Check.due("0", x.share(0), 0);
        Check.due("1", x.share(1), 0);
        Check.due("2", x.share(2), 0);
        Check.due("3", x.share(3), Check.NONE);
        Check.due("-2", x.share(-2), Check.BAD);
        TellerDays y = Check.bankOf("b0,20;y10,1;y10,1;p5;p5;");
        Check.due("both have 15", y.share(-1), 15);
        Check.due("the first", y.share(0), 0);
        Check.due("the other", y.share(1), 1);
        y.counter(0, 0);
        y.counter(1, 0);
        Check.due("open or not", y.share(-1), 15);
        TellerDays none = Check.bankOf("b5,20;y10,1;d6;p30;");
        Check.due("one behind another: no way", none.share(-1), Check.NONE);
        Check.due("who", none.share(0), Check.NONE);
        none.swap();
        Check.due("a way", none.share(-1), 34);
        TellerDays poor = Check.bankOf("b5,20;y10,1;y3,1;d5;");
        Check.due("the poorest did not serve", poor.share(-1), 3);
        Check.due("by the other", poor.share(0), 0);
        TellerDays full = Check.bankOf("b0,20;y60,1;p30;p30;d10;");
        Check.due("99 at most", full.share(-1), 89);
    }

    private static void sharesKnowNoTurns() {
        TellerDays x = Check.bankOf("b0,1;n20,1;d9;d9;");
        Check.due("no week ends", x.share(-1), 2);
        Check.due("but in ORDER", x.order(-2), 4);
    }

    private static void fewestCounters() {
        TellerDays x = Check.bankOf("b0,20;y10,1;y20,1;y30,1;d20;d10;");
        Check.due("one", x.open(0), 1);
        Check.due("the third", x.open(1), 4);
        TellerDays two = Check.bankOf("b0,20;y10,1;y20,1;y30,1;d30;d10;");
        Check.due("two", two.open(0), 2);
        Check.due("least bits", two.open(1), 5);
        two.counter(0, 0);
        two.counter(2, 0);
        Check.due("shut now, too", two.open(1), 5);
        TellerDays none = Check.bankOf("b0,20;y10,1;d11;");
        Check.due("none", none.open(0), Check.NONE);
        Check.due("none", none.open(1), Check.NONE);
        Check.due("2", none.open(2), Check.BAD);
        Check.due("-1", none.open(-1), Check.BAD);
        TellerDays empty = Check.bankOf("b0,20;y10,1;");
        Check.due("empty", empty.open(0), 0);
        Check.due("empty", empty.open(1), 0);
        TellerDays pay = Check.bankOf("b0,20;y10,1;y0,1;p1;");
        Check.due("a paying-in needs one", pay.open(0), 1);
        Check.due("the first", pay.open(1), 1);
    }

    private static void cheapest() {
        TellerDays x = Check.bankOf("b0,20;y10,1;c10,3;n10,1;k10,3;");
        int[] sums = {1, 2, 4, 5, 10, 30};
        int[] who = {0, 1, 1, 1, 3, 2};
        int[] cost = {1, 1, 1, 2, 4, 9};
        for (int s = 0; s < sums.length; s++) {
            Check.due("who by " + sums[s], x.cheap(sums[s], 0), who[s]);
            Check.due("cost by " + sums[s], x.cheap(sums[s], 1), cost[s]);
        }
        x.counter(2, 0);
        Check.due("open or not", x.cheap(30, 0), 2);
        Check.due("0", x.cheap(0, 0), Check.BAD);
        Check.due("31", x.cheap(31, 0), Check.BAD);
        Check.due("what 2", x.cheap(1, 2), Check.BAD);
        Check.due("what -1", x.cheap(1, -1), Check.BAD);
    }

    private static void greatestDrawing() {
        TellerDays x = Check.bankOf("b5,20;y20,1;c18,4;");
        Check.due("the careful one", x.most(), 17);
        x.counter(1, 0);
        Check.due("the young one", x.most(), 15);
        x.counter(0, 0);
        Check.due("none open", x.most(), Check.NONE);
        Check.due("brown", Check.bankOf("b5,20;n14,1;").most(), 99);
        Check.due("brown, 8", Check.bankOf("b5,20;n13,1;").most(), 8);
        Check.due("none", Check.bankOf("b5,20;y5,1;").most(), Check.NONE);
        Check.due("one", Check.bankOf("b5,20;y6,1;").most(), 1);
        TellerDays rich = Check.bankOf("b0,20;c60,9;p30;p30;");
        rich.serve(2);
        Check.due("99 at most", rich.most(), 99);
    }

    private static void twins() {
        TellerDays x = Check.bankOf("b0,20;y1,1;y5,1;y1,1;y5,1;");
        Check.due("pairs", x.twins(0), 2);
        Check.due("first", x.twins(1), 2);
        x.come(0, 4);
        x.serve(1);
        Check.due("three have the same", x.twins(0), 3);
        Check.due("first", x.twins(1), 1);
        TellerDays late = Check.bankOf("b0,20;y1,1;y2,1;y7,1;y7,1;");
        Check.due("pairs", late.twins(0), 1);
        Check.due("first", late.twins(1), 23);
        TellerDays none = Check.bankOf("b0,20;y1,1;y2,1;");
        Check.due("none", none.twins(0), 0);
        Check.due("none", none.twins(1), Check.NONE);
        Check.due("2", none.twins(2), Check.BAD);
        Check.due("-1", none.twins(-1), Check.BAD);
    }

    /** ORDER and SHARE are kept between calls, so each change must be seen by them. */
    private static void foundAnewWhenTheBankChanges() {
        TellerDays x = Check.bankOf("b0,20;y30,1;y20,1;d4;d6;p9;");
        both(x, "read", 3, 49, 3);
        x.swap();
        both(x, "swap", 3, 49, 3);
        Check.due("the way of a swapped one", x.share(-1), 24);
        x.serve(1);
        both(x, "serve", 2, 49, 2);
        x.counter(0, 0);
        both(x, "counter", 2, 49, 2);
        x.come(0, 30);
        both(x, "come", 3, 79, 3);
        x.dismiss();
        both(x, "dismiss", 2, 83, 2);
        x.image(0);
        x.undo();
        both(x, "undo", 3, 79, 3);
        x.restore(0);
        both(x, "restore", 2, 83, 2);
        Check.read(x, "b0,1;y5,1;");
        both(x, "read again", 0, 5, 0);
    }

    private static void both(TellerDays x, String when, int paid, int left, int papers) {
        Check.due(when + ": most", x.order(-1), paid);
        Check.due(when + ": LEFT", x.order(-2), left);
        Check.due(when + ": order ends", x.order(papers), Check.NONE);
        Check.due(when + ": share ends", x.share(papers), Check.NONE);
        Check.that(when + ": order", papers == 0 || x.order(papers - 1) != Check.NONE);
        Check.that(when + ": share", papers == 0 || x.share(papers - 1) != Check.NONE);
    }
}
