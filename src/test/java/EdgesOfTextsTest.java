/** Promises 6 to 9, sentence by sentence. */
public final class EdgesOfTextsTest {
    public static void main(String[] args) {
        Edge.of(6, "A byte (0 to 255) comes behind the tape", EdgesOfTextsTest::bytesCome);
        Edge.of(6, "how many it has.", EdgesOfTextsTest::howManyItHas);
        Edge.of(6, "BAD;", EdgesOfTextsTest::noByte);
        Edge.of(6, "FULL.", EdgesOfTextsTest::fullTape);

        Edge.of(7, "The tape, empty then, is read", EdgesOfTextsTest::emptyThen);
        Edge.of(7, "how many TELLERS there are.", EdgesOfTextsTest::howManyTellers);
        Edge.of(7, "-1000100 less the place of a FAULT", EdgesOfTextsTest::placeOfAFault);
        Edge.of(7, "all stays.", EdgesOfTextsTest::allStays);

        Edge.of(8, "The number of the latest FAULT", EdgesOfTextsTest::latestFault);
        Edge.of(8, "0 before one.", EdgesOfTextsTest::noFaultYet);

        Edge.of(9, "The latest ACT is undone", EdgesOfTextsTest::latestIsUndone);
        Edge.of(9, "how many can be undone yet.", EdgesOfTextsTest::howManyYet);
        Edge.of(9, "STATE: none.", EdgesOfTextsTest::noneToUndo);
        Edge.end(6, 9);
    }

    private static void bytesCome() {
        TellerDays x = new TellerDays();
        Check.due("feed(0)", x.feed(0), 1);
        Check.due("feed(255)", x.feed(255), 2);
        TellerDays order = new TellerDays();
        Check.read(order, "b1,2;y34,5;");
        Check.due("34, not 43", order.teller(0, 0), 34);
    }

    private static void howManyItHas() {
        TellerDays x = new TellerDays();
        for (int n = 1; n <= 120; n++) {
            Check.due("feed", x.feed(';'), n);
        }
    }

    private static void noByte() {
        for (int letter : new int[] {Integer.MIN_VALUE, -1, 256, Integer.MAX_VALUE}) {
            Twin.refused(Pasts::rich, "feed(" + letter + ")", x -> x.feed(letter), Check.BAD);
        }
    }

    private static void fullTape() {
        Twin.refused(Pasts::fullTape, "feed(';')", x -> x.feed(';'), Check.FULL);
        TellerDays x = new TellerDays();
        Pasts.fullTape(x);
        x.bank();
        Check.due("room again", x.feed(';'), 1);
    }

    private static void emptyThen() {
        TellerDays x = new TellerDays();
        Check.due("read", Check.read(x, "b1,2;y3,4;"), 1);
        Check.due("bytes", x.count(7), 0);
        Check.due("read again: nothing is there", x.bank(), -1000100);
        Check.due("read", Check.read(x, "b1,2;y3,x"), -1000108);
        Check.due("bytes behind a FAULT", x.count(7), 0);
        Check.due("read", Check.read(x, "b1,2;y3,4;"), 1);
    }

    private static void howManyTellers() {
        String text = "b1,2;";
        for (int n = 1; n <= 4; n++) {
            text += "y9,9;";
            Check.due(text, Check.read(new TellerDays(), text), n);
            Check.due(text + " with PAPERS", Check.read(new TellerDays(), text + "d1;p2;"), n);
        }
    }

    private static void placeOfAFault() {
        Check.due("the first byte", Check.read(new TellerDays(), "x"), -1000100);
        Check.due("the second", Check.read(new TellerDays(), "bx"), -1000101);
        String longest = "b20,20;c60,09;k60,09;o60,09;y60,09;d30;p30;d30;p30;d30;p30;d30;";
        Check.due("the longest BANK has no FAULT", Check.read(new TellerDays(), longest), 4);
        Check.due("one byte more", Check.read(new TellerDays(), longest + "x"), -1000163);
        Check.due("one byte less", Check.read(new TellerDays(), longest.substring(0, 62)), -1000162);
    }

    /** The tape alone is empty then; all else is as it was. */
    private static void allStays() {
        TellerDays x = new TellerDays();
        Pasts.rich(x);
        Check.due("b0,1;y1 and an end", x.bank(), -1000107);
        TellerDays y = new TellerDays();
        Pasts.rich(y);
        for (int what = 0; what < 7; what++) {
            Check.due("count(" + what + ")", x.count(what), y.count(what));
        }
        for (int t = 0; t < 3; t++) {
            for (int what = 0; what < 5; what++) {
                Check.due("teller(" + t + ", " + what + ")", x.teller(t, what), y.teller(t, what));
            }
            Check.due("kind(" + t + ")", x.kind(t), y.kind(t));
        }
        for (int p = 0; p < 7; p++) {
            Check.due("queue(" + p + ")", x.queue(p), y.queue(p));
            Check.due("SUM of " + p, x.paper(p, 0), y.paper(p, 0));
        }
        Check.due("status()", x.status(), 2);
        Check.due("undo()", x.undo(), y.undo());
        Check.due("restore(0)", x.restore(0), 1);
        TellerDays none = new TellerDays();
        Check.read(none, "b0,1;y1,1;x");
        Check.due("no BANK yet", none.holds(), Check.STATE);
    }

    private static void latestFault() {
        TellerDays x = new TellerDays();
        Check.read(x, "b21,1;");
        Check.due("2", x.fault(), 2);
        Check.read(x, "b0,1;y1,1;y1,1;y1,1;y1,1;y1,1;");
        Check.due("3", x.fault(), 3);
        Check.read(x, "b;");
        Check.due("1", x.fault(), 1);
        Check.read(x, "b0,1;y1,1;");
        Check.due("a good one leaves it", x.fault(), 1);
        x.feed(256);
        x.serve(0);
        Check.due("what is refused is no FAULT", x.fault(), 1);
    }

    private static void noFaultYet() {
        TellerDays x = new TellerDays();
        Check.due("new", x.fault(), 0);
        x.feed('x');
        Check.due("not read", x.fault(), 0);
        Check.due("read without", Check.bankOf("b0,1;y1,1;").fault(), 0);
    }

    private static void latestIsUndone() {
        TellerDays x = Check.bankOf("b0,20;y30,1;d4;d5;");
        x.serve(2);
        x.undo();
        Check.due("the second TURN", x.teller(0, 2), 26);
        Check.due("TURN", x.count(3), 1);
        Check.due("it is in THE QUEUE again", x.queue(0), 1);
        Check.due("PAID", x.count(4), 1);
        Check.due("served", x.teller(0, 4), 1);
        x.counter(0, 0);
        x.undo();
        Check.due("open again", x.teller(0, 3), 1);
        x.undo();
        Check.due("the first TURN", x.teller(0, 2), 30);
    }

    private static void howManyYet() {
        TellerDays x = Check.bankOf("b0,20;y30,1;d4;d5;");
        x.serve(1);
        x.counter(0, 0);
        x.swap();
        x.come(1, 1);
        for (int yet = 2; yet >= 0; yet--) {
            Check.due("undo()", x.undo(), yet);
            Check.due("count(6)", x.count(6), yet);
        }
    }

    private static void noneToUndo() {
        Twin.refused(Pasts::none, "undo(), no BANK", TellerDays::undo, Check.STATE);
        TellerDays x = Check.bankOf("b0,20;y30,1;");
        Check.due("a new BANK", x.undo(), Check.STATE);
        x.serve(1);
        x.undo();
        Check.due("all are undone", x.undo(), Check.STATE);
        Check.due("TURN", x.count(3), 0);
        x.serve(1);
        Check.read(x, "b0,20;y30,1;");
        Check.due("another BANK", x.undo(), Check.STATE);
    }
}
