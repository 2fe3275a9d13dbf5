import java.util.function.ToLongFunction;

/** Terms, section 3: what is FORETOLD. */
final class TermsForetold {
    private TermsForetold() {
    }

    static void quote() {
        Edge.of(0, "FORETOLD (nothing changes).", TermsForetold::nothingChanges);
        Edge.of(0, "AHEAD by n TURNS (0 to 60): what a TELLER has LEFT;", TermsForetold::aheadLeft);
        Edge.of(0, "PAPERS (bits) that are in THE QUEUE.", TermsForetold::aheadPapers);
        Edge.of(0, "WHO serves a PAPER in THE QUEUE;", TermsForetold::whoServes);
        Edge.of(0, "NONE: nobody.", TermsForetold::nobody);
        Edge.of(0, "HOLDS: how many of the next PAPERS are PAID ahead of the first one that is UNPAID.", TermsForetold::holds);
        Edge.of(0, "INFANT: the TELLER who has INFANCY or less LEFT first", TermsForetold::infantFirst);
        Edge.of(0, "of TURNS that serve THE QUEUE", TermsForetold::infantOfTurns);
        Edge.of(0, "(now, too; of several the first); NONE.", TermsForetold::infantNow);
        orders();
        shares();
        singles();
        fitting();
        likely();
    }

    private static void orders() {
        Edge.of(0, "ORDER: of all orders of THE QUEUE that by which most of it is PAID", TermsForetold::mostPaid);
        Edge.of(0, "ORDER: of all orders of THE QUEUE", TermsForetold::foundAnew);
        Edge.of(0, "of several that by which all TELLERS together have most LEFT then", TermsForetold::mostLeft);
        Edge.of(0, "of several the first (by numbers): how many; how much; the k-th PAPER.", TermsForetold::firstByNumbers);
    }

    private static void shares() {
        Edge.of(0, "SHARE: of all ways to have each PAPER of THE QUEUE, one behind another", TermsForetold::oneBehindAnother);
        Edge.of(0, "no TURNS told", TermsForetold::noTurnsTold);
        Edge.of(0, "served by some TELLER, open or not", TermsForetold::openOrNot);
        Edge.of(0, "(a drawing only if he has INFANCY or more LEFT then)", TermsForetold::infancyOrMore);
        Edge.of(0, "that by which the poorest has most LEFT at the end", TermsForetold::poorestHasMost);
        Edge.of(0, "of several the first (by TELLERS, PAPER by PAPER): how much; who serves the k-th of THE QUEUE;",
            TermsForetold::firstByTellers);
        Edge.of(0, "NONE: there is no such way.", TermsForetold::noSuchWay);
    }

    private static void singles() {
        Edge.of(0, "OPEN: the fewest counters to be open, all others shut, so that all of THE QUEUE is PAID: how many;",
            TermsForetold::fewestCounters);
        Edge.of(0, "which (bits), of several the least;", TermsForetold::leastBits);
        Edge.of(0, "of several the least; NONE.", TermsForetold::noCounters);
        Edge.of(0, "CHEAP: the TELLER to whom a drawing of SUM (1 to 30) has least COST, of several the first; that.",
            TermsForetold::cheap);
        Edge.of(0, "MOST: the greatest SUM (1 to 99) of one drawing that some open TELLER would pay now; NONE.", TermsForetold::most);
        Edge.of(0, "TWINS: pairs of TELLERS who have the same LEFT: how many;", TermsForetold::twins);
        Edge.of(0, "the first (10 times the lesser, and the greater); NONE.", TermsForetold::firstTwins);
    }

    private static void fitting() {
        Edge.of(0, "A row tells what a TELLER has LEFT behind each of n TURNS (1 to 12) from now on.", TermsForetold::rowTells);
        Edge.of(0, "KINDS (bits 1 to 5)", TermsForetold::kinds);
        Edge.of(0, "CARES (1 to 9, bits) of one TELLER (him, or another one) by which it is so.", TermsForetold::cares);
        Edge.of(0, "SUMS (1 to 30, bits) of the first PAPER of THE QUEUE by which it is so.", TermsForetold::sums);
        Edge.of(0, "STAYED: PAPERS (bits) of THE QUEUE, one of which, not there, makes it so;", TermsForetold::stayed);
        Edge.of(0, "128 more, if it is so as it is.", TermsForetold::asItIs);
    }

    private static void likely() {
        Edge.of(0, "AWAY by p of 10 (0 to 10): each PAPER of THE QUEUE stays away in p of 10 cases, apart:", TermsForetold::apart);
        Edge.of(0, "how likely all others of it are PAID: a fraction.", TermsForetold::allOthers);
        Edge.of(0, "WEEKS of n TURNS (0 to 60) by a SEED (X at first):", TermsForetold::turnsOfWeeks);
        Edge.of(0, "ahead of each X becomes the rest of (X times 16807) by 2147483647;", TermsForetold::seeds);
        Edge.of(0, "if less than 7 are in THE QUEUE, a PAPER comes", TermsForetold::roomForOneMore);
        Edge.of(0, "(a paying-in, if X by 3 leaves 0, else a drawing; SUM is the rest of X by 30, and 1):", TermsForetold::whatComes);
        Edge.of(0, "how many are UNPAID in these; what all TELLERS have LEFT then.", TermsForetold::unpaidInThese);
    }

    private static void stays(String name, ToLongFunction<TellerDays> call) {
        Twin.foretold(Pasts::rich, name, call);
        Twin.foretold(Pasts::fullQueue, name + ", seven there", call);
    }

    private static void nothingChanges() {
        stays("ahead(1, 60)", x -> x.ahead(1, 60));
        stays("waiting(60)", x -> x.waiting(60));
        stays("server(0)", x -> x.server(0));
        stays("holds()", TellerDays::holds);
        stays("infant()", TellerDays::infant);
        stays("order(-1)", x -> x.order(-1));
        stays("share(-1)", x -> x.share(-1));
        stays("open(1)", x -> x.open(1));
        stays("cheap(30, 0)", x -> x.cheap(30, 0));
        stays("most()", TellerDays::most);
        stays("twins(1)", x -> x.twins(1));
        stays("who, KINDS", x -> x.who(0, 0, 1, 2, 0, 4));
        stays("who, CARES", x -> x.who(1, 1, 1, 2, 0, 4));
        stays("sums", x -> x.sums(1, 2, 0, 4));
        stays("stayed", x -> x.stayed(1, 2, 0, 4));
        stays("away(3, 0)", x -> x.away(3, 0));
        stays("drawn(60, 7, 0)", x -> x.drawn(60, 7, 0));
    }

    private static void aheadLeft() {
        TellerDays x = Check.bankOf("b0,20;y30,1;d4;d5;");
        int[] left = {30, 26, 21, 21};
        for (int n = 0; n < left.length; n++) {
            Check.due("ahead(0, " + n + ")", x.ahead(0, n), left[n]);
        }
        Check.due("60", x.ahead(0, 60), 21);
        Check.due("61", x.ahead(0, 61), Check.BAD);
        Check.due("-1", x.ahead(0, -1), Check.BAD);
        x.serve(1);
        Check.due("from now on", x.ahead(0, 1), 21);
    }

    private static void aheadPapers() {
        TellerDays x = Check.bankOf("b0,20;y30,1;d4;d5;d6;");
        x.serve(1);
        x.come(1, 9);
        int[] bits = {0b111, 0b101, 0b001, 0};
        for (int n = 0; n < bits.length; n++) {
            Check.due("waiting(" + n + ")", x.waiting(n), bits[n]);
        }
    }

    private static void whoServes() {
        TellerDays x = Check.bankOf("b0,20;y30,1;y28,1;d4;d5;p1;");
        Check.due("the first", x.server(0), 0);
        Check.due("the second", x.server(1), 1);
        Check.due("a paying-in, by the poorest then", x.server(2), 1);
    }

    private static void nobody() {
        TellerDays x = Check.bankOf("b9,20;y10,1;d2;d1;d1;");
        Check.due("at once", x.server(0), Check.NONE);
        Check.due("the next", x.server(1), 0);
        Check.due("at the end", x.server(2), Check.NONE);
    }

    private static void holds() {
        TellerDays x = Check.bankOf("b9,20;y12,1;d1;d1;d2;d1;d1;");
        Check.due("two", x.holds(), 2);
        x.swap();
        Check.due("swapped, two", x.holds(), 2);
        x.serve(3);
        Check.due("one, then one is UNPAID", x.holds(), 1);
    }

    private static void infantFirst() {
        Check.due("first in time", Check.bankOf("b5,20;y10,1;y12,1;d7;d5;").infant(), 1);
        Check.due("INFANCY", Check.bankOf("b5,20;y10,1;d5;").infant(), 0);
        Check.due("or less, by none", Check.bankOf("b5,20;y10,1;d4;").infant(), Check.NONE);
    }

    private static void infantOfTurns() {
        Check.due("the last TURN that serves", Check.bankOf("b5,20;y10,1;d1;d1;d3;").infant(), 0);
        // A week's end is of the TURN; behind the last one nobody is looked at.
        Check.due("a brown one, a day more", Check.bankOf("b5,1;n10,1;d5;").infant(), Check.NONE);
        Check.due("a brown one, not yet", Check.bankOf("b5,2;n10,1;d5;").infant(), 0);
    }

    private static void infantNow() {
        Check.due("now", Check.bankOf("b5,20;y6,1;y5,1;d1;").infant(), 1);
        Check.due("now, though a paying-in comes", Check.bankOf("b5,20;y6,1;y5,1;p9;").infant(), 1);
        Check.due("of several the first", Check.bankOf("b5,20;y6,1;y3,1;y2,1;").infant(), 1);
        Check.due("none", Check.bankOf("b5,20;y6,1;y6,1;").infant(), Check.NONE);
    }

    private static void order(TellerDays x, int paid, int left, int... papers) {
        Check.due("how many", x.order(-1), paid);
        Check.due("how much", x.order(-2), left);
        for (int k = 0; k < papers.length; k++) {
            Check.due("order(" + k + ")", x.order(k), papers[k]);
        }
        Check.due("the end", x.order(papers.length), Check.NONE);
    }

    private static void mostPaid() {
        // Two small ones rather than the great one, though less is LEFT then.
        order(Check.bankOf("b0,20;y10,1;d9;d5;d5;"), 2, 0, 1, 0, 2);
        // Of 19 the greatest two cannot be PAID both: 12 is UNPAID, so 7 are LEFT; it comes where 10 cannot pay it.
        order(Check.bankOf("b0,20;y10,1;d11;d12;d1;p9;"), 3, 7, 1, 2, 3, 0);
        // TURNS are told: behind d8 the brown one has a day again, by which he pays d1.
        order(Check.bankOf("b0,1;n7,1;d8;p1;d1;"), 3, 1, 1, 0, 2);
    }

    /** What was found is found anew when the BANK is another, by whatever way. */
    private static void foundAnew() {
        TellerDays x = Check.bankOf("b0,20;y9,1;y8,1;d3;d4;d30;");
        order(x, 2, 10, 0, 1, 2);
        share(x, Check.NONE, Check.NONE, Check.NONE, Check.NONE);
        x.image(0);
        x.serve(3);
        order(x, 0, 10);
        share(x, 4);
        x.undo();
        order(x, 0, 10, 2);
        share(x, Check.NONE, Check.NONE);
        x.dismiss();
        order(x, 0, 10);
        x.come(1, 5);
        order(x, 1, 5, 0);
        share(x, 1, 0);
        x.counter(0, 0);
        order(x, 0, 10, 0);
        x.come(0, 1);
        x.swap();
        order(x, 2, 6, 1, 0);
        share(x, 2, 0, 0);
        x.restore(0);
        order(x, 2, 10, 0, 1, 2);
        share(x, Check.NONE, Check.NONE, Check.NONE, Check.NONE);
        Check.read(x, "b0,20;y5,1;d2;");
        order(x, 1, 3, 0);
        share(x, 3, 0);
    }

    private static void mostLeft() {
        // One of three can be paid: the least, so that 4 are LEFT.
        order(Check.bankOf("b0,20;y10,1;d8;d7;d6;"), 1, 4, 2, 0, 1);
        // A paying-in ahead of the drawing is cut at 99.
        TellerDays x = Check.bankOf("b0,20;y60,1;p30;p9;p9;d9;");
        x.serve(2);
        order(x, 2, 99, 3, 2);
    }

    private static void firstByNumbers() {
        TellerDays x = Check.bankOf("b0,20;y60,1;d1;d1;d1;");
        x.swap();
        order(x, 3, 57, 0, 1, 2);
        x.serve(1);
        x.come(1, 1);
        order(x, 3, 56, 0, 1, 2);
    }

    private static void share(TellerDays x, int left, int... tellers) {
        Check.due("how much", x.share(-1), left);
        for (int k = 0; k < tellers.length; k++) {
            Check.due("share(" + k + ")", x.share(k), tellers[k]);
        }
        Check.due("the end", x.share(tellers.length), Check.NONE);
    }

    private static void oneBehindAnother() {
        share(Check.bankOf("b0,20;y3,1;p4;d7;"), 0, 0, 0);
        share(Check.bankOf("b0,20;y3,1;d7;p4;"), Check.NONE, Check.NONE, Check.NONE);
    }

    private static void noTurnsTold() {
        share(Check.bankOf("b0,1;n20,1;d9;d9;"), 2, 0, 0);
        share(Check.bankOf("b0,1;n18,1;d9;d9;"), 0, 0, 0);
        share(Check.bankOf("b0,1;n17,1;d9;d9;"), Check.NONE, Check.NONE, Check.NONE);
    }

    private static void openOrNot() {
        TellerDays x = Check.bankOf("b0,20;y9,1;y20,1;d5;");
        x.counter(0, 0);
        x.counter(1, 0);
        share(x, 9, 1);
    }

    private static void infancyOrMore() {
        share(Check.bankOf("b5,20;y9,1;y10,1;d5;"), 5, 1);
        share(Check.bankOf("b5,20;y9,1;y9,1;d5;"), Check.NONE, Check.NONE);
        share(Check.bankOf("b5,20;y2,1;p2;"), 4, 0);
    }

    private static void poorestHasMost() {
        // To 0: 15 and 12; to 1: 20 and 7.
        share(Check.bankOf("b0,20;y20,1;y12,1;d5;"), 12, 0);
        // Paying-in to the poorest; the drawing by the richest.
        share(Check.bankOf("b0,20;y20,1;y12,1;p5;d4;"), 16, 1, 0);
        // A way that looks poor until the paying-in comes: 12 and 26, then 21 and 26.
        share(Check.bankOf("b0,20;y12,1;y30,1;d4;p9;"), 21, 1, 0);
        // The poorest of all counts, also one who serves nobody.
        share(Check.bankOf("b0,20;y20,1;y12,1;y3,1;d5;"), 3, 0);
    }

    private static void firstByTellers() {
        share(Check.bankOf("b0,20;y3,1;y30,1;y30,1;d9;d9;"), 3, 1, 1);
        share(Check.bankOf("b0,20;y9,1;y9,1;p3;p3;"), 12, 0, 1);
        share(Check.bankOf("b0,20;y3,1;y9,1;p3;p3;"), 9, 0, 0);
        TellerDays x = Check.bankOf("b0,20;y30,1;y9,1;d3;p7;");
        share(x, 16, 0, 1);
        x.swap();
        share(x, 16, 1, 0);
    }

    private static void noSuchWay() {
        share(Check.bankOf("b0,20;y9,1;y9,1;d9;d9;d1;"), Check.NONE, Check.NONE, Check.NONE, Check.NONE);
        share(Check.bankOf("b0,20;y9,1;y9,1;"), 9);
    }

    private static void fewestCounters() {
        TellerDays x = Check.bankOf("b0,20;y9,1;y8,1;y17,1;d9;d8;");
        x.counter(2, 0);
        Check.due("one, shut now", x.open(0), 1);
        Check.due("which", x.open(1), 4);
        TellerDays two = Check.bankOf("b0,20;y9,1;y8,1;y8,1;d9;d8;");
        Check.due("two", two.open(0), 2);
        // More counters may pay less: with all open the richest gives d1, and d20 is UNPAID then.
        TellerDays less = Check.bankOf("b0,20;y19,1;y20,1;d1;d20;");
        Check.due("less", less.open(0), Check.NONE);
        Check.due("nobody is there", Check.bankOf("b0,20;y9,1;").open(0), 0);
    }

    private static void leastBits() {
        Check.due("of two the first", Check.bankOf("b0,20;y9,1;y9,1;d9;").open(1), 1);
        Check.due("of pairs 0 and 1", Check.bankOf("b0,20;y9,1;y9,1;y9,1;d9;d9;").open(1), 3);
        Check.due("one alone rather than 0 and 1", Check.bankOf("b0,20;y9,1;y9,1;y18,1;d9;d9;").open(1), 4);
    }

    private static void noCounters() {
        TellerDays x = Check.bankOf("b0,20;y9,1;y9,1;d9;d9;d1;");
        Check.due("how many", x.open(0), Check.NONE);
        Check.due("which", x.open(1), Check.NONE);
    }

    private static void cheap() {
        TellerDays x = Check.bankOf("b0,20;y9,1;c9,4;c9,4;o9,9;");
        int[][] want = {{1, 0, 1}, {2, 1, 1}, {5, 1, 1}, {6, 1, 2}, {7, 1, 3}, {8, 3, 3}, {30, 3, 23}};
        // By 8: 8, 4, 4, 3; by 7: 7, 3, 3, 3.
        for (int[] w : want) {
            Check.due("cheap(" + w[0] + ", 0)", x.cheap(w[0], 0), w[1]);
            Check.due("cheap(" + w[0] + ", 1)", x.cheap(w[0], 1), w[2]);
        }
        Check.due("0", x.cheap(0, 0), Check.BAD);
        Check.due("31", x.cheap(31, 0), Check.BAD);
        x.counter(3, 0);
        Check.due("open or not", x.cheap(30, 0), 3);
    }

    private static void most() {
        Check.due("1", Check.bankOf("b9,20;y10,1;").most(), 1);
        Check.due("none", Check.bankOf("b9,20;y9,1;").most(), Check.NONE);
        Check.due("99", Check.bankOf("b0,20;n9,1;").most(), 99);
        TellerDays x = Check.bankOf("b0,20;y60,1;p30;p8;");
        x.serve(2);
        Check.due("98", x.most(), 98);
        x.come(0, 30);
        x.serve(1);
        Check.due("99, all that he has", x.most(), 99);
        TellerDays two = Check.bankOf("b0,20;y20,1;c10,9;");
        Check.due("of the richer", two.most(), 20);
        two.counter(0, 0);
        Check.due("of the open one", two.most(), 19);
    }

    private static void twins() {
        Check.due("none", Check.bankOf("b0,20;y9,1;y8,1;y7,1;y6,1;").twins(0), 0);
        Check.due("one", Check.bankOf("b0,20;y9,1;y8,1;y7,1;y9,1;").twins(0), 1);
        Check.due("two", Check.bankOf("b0,20;y9,1;y8,1;y8,1;y9,1;").twins(0), 2);
        Check.due("three", Check.bankOf("b0,20;y9,1;y8,1;y9,1;y9,1;").twins(0), 3);
        Check.due("six", Check.bankOf("b0,20;y9,1;y9,1;y9,1;y9,1;").twins(0), 6);
        TellerDays x = Check.bankOf("b0,20;y9,1;y8,1;d1;");
        x.serve(1);
        Check.due("what they have LEFT, not DAYS", x.twins(0), 1);
    }

    private static void firstTwins() {
        Check.due("0 and 1", Check.bankOf("b0,20;y9,1;y9,1;").twins(1), 1);
        Check.due("0 and 3", Check.bankOf("b0,20;y9,1;y8,1;y7,1;y9,1;").twins(1), 3);
        Check.due("0 and 3 ahead of 1 and 2", Check.bankOf("b0,20;y9,1;y8,1;y8,1;y9,1;").twins(1), 3);
        Check.due("1 and 2", Check.bankOf("b0,20;y9,1;y8,1;y8,1;y7,1;").twins(1), 12);
        Check.due("2 and 3", Check.bankOf("b0,20;y9,1;y8,1;y7,1;y7,1;").twins(1), 23);
        Check.due("none", Check.bankOf("b0,20;y9,1;y8,1;").twins(1), Check.NONE);
    }

    private static void rowTells() {
        TellerDays x = Check.bankOf("b0,20;y40,1;d1;d2;d3;");
        Check.fill(x, 0, 0, 39, 37, 34, 34, 34, 34, 34, 34, 34, 34, 34, 34, 34);
        Check.due("one TURN, one of 1", x.sums(0, 0, 0, 1), 1 << 1);
        Check.due("twelve", x.sums(0, 0, 0, 12), 1 << 1);
        Check.due("none", x.sums(0, 0, 0, 0), Check.BAD);
        Check.due("thirteen", x.sums(0, 0, 0, 13), Check.BAD);
        Check.due("not of what he has now", x.sums(0, 0, 1, 1), 1 << 3);
        x.serve(1);
        Check.due("from now on", x.sums(0, 0, 1, 2), 1 << 2);
    }

    private static void kinds() {
        TellerDays x = Check.bankOf("b0,2;c40,2;d4;");
        // Careful 2, brisk 2, rosy 4, young 4, brown 4 and one more at the week's end.
        Check.fill(x, 0, 0, 38, 38, 36, 36, 36, 37);
        Check.due("careful, brisk", x.who(0, 0, 0, 0, 0, 2), 1 << 1 | 1 << 2);
        Check.due("rosy, young", x.who(0, 0, 0, 0, 2, 2), 1 << 3 | 1 << 4);
        Check.due("brown", x.who(0, 0, 0, 0, 4, 2), 1 << 5);
        Check.due("rosy, young, brown", x.who(0, 0, 0, 0, 2, 1), 1 << 3 | 1 << 4 | 1 << 5);
    }

    private static void cares() {
        TellerDays x = Check.bankOf("b0,20;k40,2;y39,1;d9;d1;");
        // 8/2 and 1 by CARE 1, 3 and 1 by 2 and 3, 2 and 1 by 4 and 5, 2 by 6 and 7, 1 by 8 and 9.
        Check.fill(x, 0, 0, 35, 36, 37, 38, 39);
        int[] cares = {1 << 1, 1 << 2 | 1 << 3, 1 << 4 | 1 << 5, 1 << 6 | 1 << 7, 1 << 8 | 1 << 9};
        for (int i = 0; i < 5; i++) {
            Check.due("ITEM " + i, x.who(0, 1, 0, 0, i, 1), cares[i]);
        }
        Check.fill(x, 1, 0, 39, 39, 39, 38);
        Check.due("by another one: 0 serves d1, too", x.who(0, 1, 1, 1, 0, 2), 1 << 8 | 1 << 9);
        Check.due("by another one, who serves it", x.who(0, 1, 1, 1, 2, 2), 0b11111110);
    }

    private static void sums() {
        TellerDays x = Check.bankOf("b0,20;n40,1;p5;d20;");
        x.swap();
        Check.fill(x, 0, 0, 39, 31, 40, 39, 44);
        Check.due("1", x.sums(0, 0, 0, 1), 1 << 1);
        Check.due("9 to 30", x.sums(0, 0, 1, 1), -(1 << 9) & 0x7fffffff);
        Check.due("none", x.sums(0, 0, 2, 1), 0);
        Check.due("1, and then 5", x.sums(0, 0, 3, 2), 1 << 1);
        x.swap();
        Check.fill(x, 0, 0, 41, 70, 71);
        Check.due("a paying-in of 1", x.sums(0, 0, 0, 1), 1 << 1);
        Check.due("a paying-in of 30", x.sums(0, 0, 1, 1), 1 << 30);
        Check.due("none of 31", x.sums(0, 0, 2, 1), 0);
    }

    private static void stayed() {
        TellerDays x = Check.bankOf("b0,20;y40,1;d1;d2;d3;");
        x.serve(1);
        x.come(1, 4);
        // Of THE QUEUE are 1, 2 and 0 (a drawing of 4); 39 LEFT.
        Check.fill(x, 0, 0, 36, 32, 37, 33, 37, 34);
        Check.due("1 is not there", x.stayed(0, 0, 0, 2), 1 << 1);
        Check.due("2 is not there", x.stayed(0, 0, 2, 2), 1 << 2);
        Check.due("0 is not there, or as it is", x.stayed(0, 0, 4, 2), 1 << 0 | 128);
        Check.due("3 was never there, so is none", x.stayed(0, 0, 1, 1), 0);
    }

    private static void asItIs() {
        TellerDays x = Check.bankOf("b0,20;y40,1;d1;d2;");
        Check.fill(x, 0, 0, 39, 37, 37);
        Check.due("as it is alone", x.stayed(0, 0, 0, 3), 128);
        Check.due("as it is, or without 1", x.stayed(0, 0, 0, 1), 128 | 1 << 1);
        Check.due("nobody is there", Check.bankOf("b0,20;y40,1;").stayed(0, 0, 0, 1), Check.NULL);
    }

    private static void fraction(TellerDays x, int p, long above, long below) {
        Check.due("away(" + p + ", 0)", x.away(p, 0), above);
        Check.due("away(" + p + ", 1)", x.away(p, 1), below);
    }

    private static void apart() {
        // Either of two must stay away: 1 less 7 by 10, twice.
        TellerDays x = Check.bankOf("b0,20;y9,1;d9;d1;");
        fraction(x, 3, 51, 100);
        fraction(x, 0, 0, 1);
        fraction(x, 10, 1, 1);
        Check.due("-1", x.away(-1, 0), Check.BAD);
        Check.due("11", x.away(11, 0), Check.BAD);
        x.serve(1);
        fraction(x, 3, 3, 10);
    }

    private static void allOthers() {
        // The drawing is PAID only if the paying-in is there, or is not there itself: 1 less 7/10 times 3/10.
        fraction(Check.bankOf("b0,20;y0,1;p9;d9;"), 3, 79, 100);
        fraction(Check.bankOf("b0,20;y0,1;d9;p9;"), 3, 3, 10);
        // One that stays away takes no TURN: without p1 the brown one has no day more ahead of d1.
        TellerDays week = Check.bankOf("b3,2;y0,1;n12,1;d9;p1;d1;");
        fraction(week, 5, 7, 8);
        fraction(week, 3, 853, 1000);
        TellerDays shut = Check.bankOf("b0,20;y9,1;p9;d9;");
        shut.counter(0, 0);
        fraction(shut, 5, 1, 4);
    }

    private static void turnsOfWeeks() {
        TellerDays x = Check.bankOf("b0,2;n30,1;");
        Check.due("n 0", x.drawn(0, 5, 1), 30);
        // By 1: drawings of 8, 20, 24: COST 8, 9, 9; a day more behind the second.
        Check.due("n 1", x.drawn(1, 1, 1), 22);
        Check.due("n 2", x.drawn(2, 1, 1), 14);
        Check.due("n 3", x.drawn(3, 1, 1), 5);
        Check.that("n 60", x.drawn(60, 1, 1) >= 0);
        Check.due("n 61", x.drawn(61, 1, 1), Check.BAD);
        Check.due("n -1", x.drawn(-1, 1, 1), Check.BAD);
    }

    /** The same WEEKS, told by hand: PAPERS that come one by one, by BigInteger's own rests. */
    private static void seeds() {
        for (int seed : new int[] {1, 2, 3, 77, 127773, 999999}) {
            TellerDays x = Check.bankOf("b3,4;n50,1;k40,3;y60,1;o30,2;d5;p4;");
            TellerDays byHand = Check.bankOf("b3,4;n50,1;k40,3;y60,1;o30,2;d5;p4;");
            java.math.BigInteger seen = java.math.BigInteger.valueOf(seed);
            for (int n = 1; n <= 60; n++) {
                seen = seen.multiply(java.math.BigInteger.valueOf(16807)).mod(java.math.BigInteger.valueOf(2147483647));
                int now = seen.intValueExact();
                byHand.come(now % 3 == 0 ? 0 : 1, now % 30 + 1);
                byHand.serve(1);
                Check.due("UNPAID by " + seed + ", " + n, x.drawn(n, seed, 0), byHand.count(5));
                int left = byHand.teller(0, 2) + byHand.teller(1, 2) + byHand.teller(2, 2) + byHand.teller(3, 2);
                Check.due("LEFT by " + seed + ", " + n, x.drawn(n, seed, 1), left);
            }
        }
    }

    private static void roomForOneMore() {
        // By 1 a drawing of 8 would be the first, of 20 the second: with seven there the first does not come.
        TellerDays six = Check.bankOf("b0,20;n60,1;d1;d1;d1;d1;d1;d1;");
        TellerDays seven = Check.bankOf("b0,20;n60,1;d1;d1;d1;d1;d1;d1;d1;");
        Check.due("six are there: 8 comes", six.drawn(7, 1, 1), 60 - 6 - 8);
        Check.due("seven are there: none comes", seven.drawn(7, 1, 1), 60 - 7);
        Check.due("X goes on: 20 comes behind them", seven.drawn(8, 1, 1), 60 - 7 - 9);
    }

    private static void whatComes() {
        // X is 50421 by SEED 3: 3 leaves 0: a paying-in; 30 leaves 21: SUM 22. By 1: 16807: a drawing of 8.
        TellerDays x = Check.bankOf("b0,20;y30,1;");
        Check.due("a paying-in of 22", x.drawn(1, 3, 1), 52);
        Check.due("a drawing of 8", x.drawn(1, 1, 1), 22);
        // X is 84035 by SEED 5: 30 leaves 5, a drawing of 6; by 30: 504210, a paying-in of 1.
        Check.due("a drawing of 6", x.drawn(1, 5, 1), 24);
        Check.due("a paying-in of 1", x.drawn(1, 30, 1), 31);
        // By 17: 285719: 30 leaves 29: a drawing of 30.
        Check.due("a drawing of 30", x.drawn(1, 17, 1), 0);
    }

    private static void unpaidInThese() {
        TellerDays x = Check.bankOf("b0,20;y5,1;d6;d6;d6;");
        x.serve(1);
        x.dismiss();
        Check.due("two UNPAID ahead of these", x.count(5), 2);
        Check.due("none yet", x.drawn(0, 1, 0), 0);
        Check.due("one of THE QUEUE", x.drawn(1, 1, 0), 1);
        Check.due("and one that came", x.drawn(2, 1, 0), 2);
        TellerDays all = Check.bankOf("b0,20;y5,1;y6,1;k7,1;n8,1;");
        Check.due("what all have", all.drawn(0, 1, 1), 26);
    }
}
