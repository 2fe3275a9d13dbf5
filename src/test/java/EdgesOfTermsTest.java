/** Terms, sentence by sentence; sections 1 to 4 are in classes of their own. */
public final class EdgesOfTermsTest {
    private static final int MIN = Integer.MIN_VALUE, MAX = Integer.MAX_VALUE;

    public static void main(String[] args) {
        Edge.of(0, "Numbers go from 0 on.", EdgesOfTermsTest::from0On);
        Edge.of(0, "All that is divided is cut towards 0", EdgesOfTermsTest::cut);
        Edge.of(0, "but fractions, told as two numbers in lowest terms", EdgesOfTermsTest::lowestTerms);
        Edge.of(0, "(0 is 0 by 1).", EdgesOfTermsTest::zeroByOne);
        Edge.of(0, "Sets are bits.", EdgesOfTermsTest::bits);
        Edge.of(0, "Refusals are answers, the first of these that fits, but as told:", EdgesOfTermsTest::firstThatFits);
        Edge.of(0, "BAD (a number is not as told; there is no such thing)", EdgesOfTermsTest::badWithoutABank);
        Edge.of(0, "STATE (as told)", EdgesOfTermsTest::stateWithoutABank);
        Edge.of(0, "FULL (as told)", EdgesOfTermsTest::full);
        Edge.of(0, "then FINDINGS", EdgesOfTermsTest::thenFindings);
        Edge.of(0, "of several the first in time: -1000010 less", EdgesOfTermsTest::firstInTime);
        Edge.of(0, "1 NULL (a ROW that is missing)", () -> found("set(7, 0, 0)", x -> x.set(7, 0, 0), Check.NULL));
        Edge.of(0, "2 PLACE (no such place of a ROW)", () -> found("set(0, 3, 0)", x -> x.set(0, 3, 0), Check.PLACE));
        Edge.of(0, "3 KIND (a TELLER that is not that)", () -> found("as(0, 3)", x -> x.as(0, 3), Check.KIND));
        Edge.of(0, "4 SIZE (fewer than none)", () -> found("row(0, 0, -1)", x -> x.row(0, 0, -1), Check.SIZE));
        Edge.of(0, "5 STORE (ROWS of two LANES).", () -> found("copy", x -> x.copy(0, 0, 1, 0, 1), Check.STORE));
        Edge.of(0, "What is refused, or found, changes nothing but status().", EdgesOfTermsTest::refusedChangesNothing);
        TermsOfTexts.quote();
        TermsOfTurns.quote();
        TermsForetold.quote();
        TermsOfAsks.quote();
        Edge.end(0, 0);
    }

    private static void found(String name, java.util.function.ToLongFunction<TellerDays> call, int want) {
        Twin.refused(Pasts::rich, name, call, want);
    }

    private static void from0On() {
        TellerDays x = Check.bankOf("b0,20;k9,1;k8,1;k7,1;k6,1;d1;d2;d3;d4;d5;d6;d7;");
        x.row(0, 0, 1);
        Check.due("the first ITEM of the first ROW", x.set(0, 0, 3), 3);
        Check.due("the first TELLER", x.teller(0, 0), 9);
        Check.due("the last TELLER", x.teller(3, 0), 6);
        Check.due("the first PAPER", x.paper(0, 0), 1);
        Check.due("the last PAPER", x.paper(6, 0), 7);
        Check.due("the first place", x.queue(0), 0);
        x.ask(0, 1);
        Check.due("the first of THE TRACE", x.trace(0), 24);
        Check.due("the first byte", Check.read(x, "c"), -1000100);
        Check.due("the first IMAGE", x.image(0), 1);
    }

    private static void cut() {
        TellerDays x = Check.bankOf("b0,20;k9,1;");
        // Halves of 1, 2, 3, 4, 5.
        int[] cost = {1, 2, 2, 3, 3};
        for (int k = 0; k < cost.length; k++) {
            Check.due("cost(0, " + (k + 2) + ")", x.cost(0, k + 2), cost[k]);
        }
    }

    private static void fraction(TellerDays x, int p, long above, long below) {
        Check.due("away(" + p + ", 0)", x.away(p, 0), above);
        Check.due("away(" + p + ", 1)", x.away(p, 1), below);
    }

    private static void lowestTerms() {
        TellerDays x = Check.bankOf("b0,20;y5,1;d6;d6;");
        fraction(x, 2, 1, 25);
        fraction(x, 4, 4, 25);
        fraction(x, 5, 1, 4);
        fraction(x, 3, 9, 100);
        fraction(x, 10, 1, 1);
    }

    private static void zeroByOne() {
        fraction(Check.bankOf("b0,20;y5,1;d6;d6;"), 0, 0, 1);
    }

    private static void bits() {
        TellerDays x = Check.bankOf("b0,20;y9,1;y8,1;y7,1;d9;d8;d7;");
        Check.due("PAPERS", x.waiting(1), 1 << 1 | 1 << 2);
        Check.due("counters", x.counter(1, 0), 1 << 0 | 1 << 2);
        Check.due("counters", x.open(1), 1 << 0 | 1 << 1 | 1 << 2);
    }

    private static void firstThatFits() {
        Twin.refused(Pasts::fullTape, "feed: BAD ahead of FULL", x -> x.feed(256), Check.BAD);
        Twin.refused(Pasts::fullQueue, "come: BAD ahead of FULL", x -> x.come(1, 31), Check.BAD);
        Twin.refused(Pasts::turn999, "serve: BAD ahead of FULL", x -> x.serve(25), Check.BAD);
        Twin.refused(Pasts::emptyQueue, "sums: BAD ahead of STATE", x -> x.sums(0, 0, 0, 13), Check.BAD);
        Twin.refused(Pasts::none, "image: BAD ahead of STATE", x -> x.image(2), Check.BAD);
        Twin.refused(Pasts::none, "restore: BAD ahead of STATE", x -> x.restore(2), Check.BAD);
        Twin.refused(Pasts::none, "serve, as told: STATE ahead of BAD", x -> x.serve(0), Check.STATE);
    }

    private static void badWithoutABank() {
        Twin.refused(Pasts::none, "counter(0, 1)", x -> x.counter(0, 1), Check.BAD);
        Twin.refused(Pasts::none, "teller(0, 0)", x -> x.teller(0, 0), Check.BAD);
        Twin.refused(Pasts::none, "paper(0, 0)", x -> x.paper(0, 0), Check.BAD);
        Twin.refused(Pasts::none, "cost(0, 1)", x -> x.cost(0, 1), Check.BAD);
        Twin.refused(Pasts::none, "ahead(0, 0)", x -> x.ahead(0, 0), Check.BAD);
        Twin.refused(Pasts::none, "server(0)", x -> x.server(0), Check.BAD);
        Twin.refused(Pasts::none, "who", x -> x.who(0, 0, 0, 0, 0, 1), Check.BAD);
        Twin.refused(Pasts::none, "sums", x -> x.sums(0, 0, 0, 1), Check.BAD);
        Twin.refused(Pasts::none, "stayed", x -> x.stayed(0, 0, 0, 1), Check.BAD);
        Twin.refused(Pasts::none, "kind(0)", x -> x.kind(0), Check.BAD);
        Twin.refused(Pasts::none, "as(0, 0)", x -> x.as(0, 0), Check.BAD);
        Twin.refused(Pasts::none, "ask(0, 0)", x -> x.ask(0, 0), Check.BAD);
    }

    private static void stateWithoutABank() {
        Twin.refused(Pasts::none, "undo()", TellerDays::undo, Check.STATE);
        Twin.refused(Pasts::none, "dismiss()", TellerDays::dismiss, Check.STATE);
        Twin.refused(Pasts::none, "swap()", TellerDays::swap, Check.STATE);
        Twin.refused(Pasts::none, "holds()", TellerDays::holds, Check.STATE);
        Twin.refused(Pasts::none, "infant()", TellerDays::infant, Check.STATE);
        Twin.refused(Pasts::none, "most()", TellerDays::most, Check.STATE);
        Twin.refused(Pasts::none, "image(0)", x -> x.image(0), Check.STATE);
        Twin.refused(Pasts::none, "restore(0)", x -> x.restore(0), Check.STATE);
        Twin.refused(Pasts::none, "away(11, 2)", x -> x.away(11, 2), Check.STATE);
        Twin.refused(Pasts::none, "drawn(61, 0, 2)", x -> x.drawn(61, 0, 2), Check.STATE);
    }

    private static void full() {
        Twin.refused(Pasts::fullTape, "feed(0)", x -> x.feed(0), Check.FULL);
        Twin.refused(Pasts::fullQueue, "come(0, 1)", x -> x.come(0, 1), Check.FULL);
        Twin.refused(Pasts::turn999, "serve(1)", x -> x.serve(1), Check.FULL);
    }

    private static void thenFindings() {
        Twin.refused(Pasts::rich, "row: LANE ahead of SIZE", x -> x.row(0, 3, -1), Check.BAD);
        Twin.refused(Pasts::rich, "row: ROW ahead of SIZE", x -> x.row(8, 0, -1), Check.BAD);
        Twin.refused(Pasts::rich, "copy: ROW ahead of NULL", x -> x.copy(7, 0, 8, 0, 1), Check.BAD);
        Twin.refused(Pasts::rich, "who: n ahead of NULL", x -> x.who(0, 0, 0, 7, 0, 0), Check.BAD);
        Twin.refused(Pasts::rich, "who: n ahead of PLACE", x -> x.who(0, 0, 0, 0, -1, 13), Check.BAD);
        Twin.refused(Pasts::emptyQueue, "sums: STATE ahead of NULL", x -> x.sums(0, 7, 0, 1), Check.STATE);
        Twin.refused(Pasts::emptyQueue, "sums: STATE ahead of PLACE", x -> x.sums(0, 0, 9, 1), Check.STATE);
        Twin.refused(Pasts::rich, "as: BAD ahead of KIND", x -> x.as(3, 1), Check.BAD);
    }

    private static void firstInTime() {
        Twin.refused(Pasts::rich, "set: NULL ahead of PLACE", x -> x.set(7, -1, 1), Check.NULL);
        Twin.refused(Pasts::rich, "copy: NULL ahead of STORE", x -> x.copy(0, 0, 7, 0, 1), Check.NULL);
        Twin.refused(Pasts::rich, "copy: NULL ahead of PLACE", x -> x.copy(7, -1, 0, 9, -1), Check.NULL);
        Twin.refused(Pasts::rich, "copy: STORE ahead of PLACE", x -> x.copy(0, -1, 1, 9, -1), Check.STORE);
        Twin.refused(Pasts::rich, "who: NULL ahead of PLACE", x -> x.who(0, 0, 0, 7, -1, 1), Check.NULL);
        Twin.refused(Pasts::rich, "sums: NULL ahead of PLACE", x -> x.sums(0, 7, MAX, 12), Check.NULL);
        Twin.refused(Pasts::rich, "stayed: NULL ahead of PLACE", x -> x.stayed(0, 7, MIN, 12), Check.NULL);
    }

    private static void refusedChangesNothing() {
        Twin.refused(Pasts::fullQueue, "serve(25)", x -> x.serve(25), Check.BAD);
        Twin.refused(Pasts::fullQueue, "come", x -> x.come(1, 1), Check.FULL);
        Twin.refused(Pasts::rich, "counter(2, 0)", x -> x.counter(2, 0), Check.STATE);
        Twin.refused(Pasts::oneInQueue, "swap()", TellerDays::swap, Check.STATE);
        Twin.refused(Pasts::emptyQueue, "dismiss()", TellerDays::dismiss, Check.STATE);
        Twin.refused(Pasts::rich, "restore(1)", x -> x.restore(1), Check.STATE);
        Twin.refused(Pasts::rich, "row(2, 0, -1)", x -> x.row(2, 0, -1), Check.SIZE);
        Twin.refused(Pasts::rich, "copy(2, 0, 2, 1, 4)", x -> x.copy(2, 0, 2, 1, 4), Check.PLACE);
    }
}
