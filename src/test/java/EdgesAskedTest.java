/** Promises 37 to 42, sentence by sentence. */
public final class EdgesAskedTest {
    private static final int MIN = Integer.MIN_VALUE, MAX = Integer.MAX_VALUE;
    private static final int[] NO_TELLERS = {MIN, -1, 3, 4, MAX};

    public static void main(String[] args) {
        Edge.of(37, "The KIND of a TELLER, as told (1 to 5).", EdgesAskedTest::kindAsTold);
        Edge.of(37, "BAD.", EdgesAskedTest::kindBad);

        Edge.of(38, "A TELLER is taken as one of a KIND (0 .. 5): its number.", EdgesAskedTest::takenAs);
        Edge.of(38, "BAD;", EdgesAskedTest::asBad);
        Edge.of(38, "KIND: it is no such one.", EdgesAskedTest::noSuchOne);

        Edge.of(39, "An ASK (0, 1) of a TELLER.", EdgesAskedTest::asked);
        Edge.of(39, "BAD.", EdgesAskedTest::askBad);
        Edge.of(39, "THE TRACE is empty ahead of it.", EdgesAskedTest::emptyAhead);

        Edge.of(40, "Number i of THE TRACE;", EdgesAskedTest::numberOfTrace);
        Edge.of(40, "NONE.", EdgesAskedTest::noNumber);

        Edge.of(41, "How many: 0 ROWS", EdgesAskedTest::countRows);
        Edge.of(41, "1 TELLERS", EdgesAskedTest::countTellers);
        Edge.of(41, "2 how many are in THE QUEUE", EdgesAskedTest::countQueue);
        Edge.of(41, "3 TURN", EdgesAskedTest::countTurns);
        Edge.of(41, "4 how many were PAID, 5 UNPAID", EdgesAskedTest::countPaid);
        Edge.of(41, "6 ACTS that can be undone", EdgesAskedTest::countActs);
        Edge.of(41, "7 bytes on the tape.", EdgesAskedTest::countBytes);
        Edge.of(41, "BAD.", EdgesAskedTest::countBad);

        Edge.of(42, "Of the latest call with a ROW", EdgesAskedTest::statusOfRows);
        Edge.of(42, "or as(),", EdgesAskedTest::statusOfAs);
        Edge.of(42, "that was not BAD, STATE, FULL", EdgesAskedTest::statusOfRefused);
        Edge.of(42, "the number of its FINDING;", EdgesAskedTest::numberOfFinding);
        Edge.of(42, "0: it had none, or there was none.", EdgesAskedTest::noFinding);
        Edge.end(37, 42);
    }

    private static void kindAsTold() {
        String sorts = "ckoyn";
        for (int k = 0; k < 5; k++) {
            TellerDays x = Check.bankOf("b0,20;y1,1;y1,1;y1,1;" + sorts.charAt(k) + "9,9;");
            Check.due("of " + sorts.charAt(k), x.kind(3), k + 1);
            Check.due("of the first", x.kind(0), 4);
        }
    }

    private static void kindBad() {
        for (int one : NO_TELLERS) {
            Twin.refused(Pasts::rich, "kind(" + one + ")", x -> x.kind(one), Check.BAD);
        }
        Twin.refused(Pasts::none, "kind(0), no BANK", x -> x.kind(0), Check.BAD);
    }

    private static void takenAs() {
        TellerDays x = Check.bankOf("b0,20;n9,1;o9,1;k9,1;");
        int[][] taken = {{0, 0}, {0, 4}, {0, 5}, {1, 0}, {1, 1}, {1, 3}, {2, 0}, {2, 1}, {2, 2}};
        for (int[] as : taken) {
            Check.due("as(" + as[0] + ", " + as[1] + ")", x.as(as[0], as[1]), as[0]);
        }
        TellerDays y = Check.bankOf("b0,20;n9,1;c9,1;y9,1;");
        int[][] more = {{1, 0}, {1, 1}, {2, 0}, {2, 4}};
        for (int[] as : more) {
            Check.due("as(" + as[0] + ", " + as[1] + ")", y.as(as[0], as[1]), as[0]);
        }
    }

    private static void asBad() {
        for (int one : NO_TELLERS) {
            Twin.refused(Pasts::rich, "as(" + one + ", 0)", x -> x.as(one, 0), Check.BAD);
        }
        for (int kind : new int[] {MIN, -1, 6, MAX}) {
            Twin.refused(Pasts::rich, "as(0, " + kind + ")", x -> x.as(0, kind), Check.BAD);
        }
        Twin.refused(Pasts::none, "as(0, 0), no BANK", x -> x.as(0, 0), Check.BAD);
    }

    private static void noSuchOne() {
        // TELLERS of rich: brown, brisk, young.
        int[][] no = {{0, 1}, {0, 2}, {0, 3}, {1, 3}, {1, 4}, {1, 5}, {2, 1}, {2, 2}, {2, 3}, {2, 5}};
        for (int[] as : no) {
            Twin.refused(Pasts::rich, "as(" + as[0] + ", " + as[1] + ")", x -> x.as(as[0], as[1]), Check.KIND);
        }
        TellerDays x = Check.bankOf("b0,20;c9,1;o9,1;");
        int[][] more = {{0, 2}, {0, 3}, {0, 4}, {0, 5}, {1, 2}, {1, 4}, {1, 5}};
        for (int[] as : more) {
            Check.due("as(" + as[0] + ", " + as[1] + ")", x.as(as[0], as[1]), Check.KIND);
        }
    }

    private static void asked() {
        TellerDays x = Check.bankOf("b0,20;c9,1;y60,9;");
        Check.due("SIZE: CARE and MARK", x.ask(0, 0), 1 + 0 + 9);
        Check.due("MARK", x.ask(0, 1), 0 + 9);
        Check.due("SIZE of a young one", x.ask(1, 0), 9 - 100);
        Check.due("MARK of a young one", x.ask(1, 1), 1 - (9 - 100));
    }

    private static void askBad() {
        for (int one : NO_TELLERS) {
            Twin.refused(Pasts::rich, "ask(" + one + ", 0)", x -> x.ask(one, 0), Check.BAD);
        }
        for (int what : new int[] {MIN, -1, 2, MAX}) {
            Twin.refused(Pasts::rich, "ask(0, " + what + ")", x -> x.ask(0, what), Check.BAD);
        }
        Twin.refused(Pasts::none, "ask(0, 0), no BANK", x -> x.ask(0, 0), Check.BAD);
    }

    private static void emptyAhead() {
        TellerDays x = Check.bankOf("b0,20;k9,1;y60,9;");
        x.ask(0, 0);
        Check.due("six numbers", x.trace(5), 20);
        x.ask(1, 0);
        Check.due("13", x.trace(0), 13);
        Check.due("10", x.trace(1), 10);
        Check.due("no more", x.trace(2), Check.NONE);
    }

    private static void numberOfTrace() {
        TellerDays x = Check.bankOf("b0,20;k9,1;");
        x.ask(0, 0);
        int[] trace = {12, 11, 10, 24, 21, 20};
        for (int i = 0; i < trace.length; i++) {
            Check.due("trace(" + i + ")", x.trace(i), trace[i]);
        }
        x.serve(1);
        Check.read(x, "b0,20;y9,1;");
        Check.due("it stays until an ask", x.trace(0), 12);
    }

    private static void noNumber() {
        TellerDays x = new TellerDays();
        Check.due("no ask yet", x.trace(0), Check.NONE);
        Check.read(x, "b0,20;k9,1;");
        x.ask(0, 0);
        for (int i : new int[] {MIN, -1, 6, 15, 16, 17, MAX}) {
            Check.due("trace(" + i + ")", x.trace(i), Check.NONE);
        }
    }

    private static void countRows() {
        TellerDays x = new TellerDays();
        for (int row = 0; row < 8; row++) {
            Check.due("count(0)", x.count(0), row);
            x.row(row, 0, 0);
        }
        Check.due("all eight", x.count(0), 8);
        x.row(7, 1, 9);
        Check.due("in place of one", x.count(0), 8);
        x.drop(0);
        Check.due("one is missing", x.count(0), 7);
    }

    private static void countTellers() {
        Check.due("no BANK", new TellerDays().count(1), 0);
        Check.due("one", Check.bankOf("b0,20;k9,1;").count(1), 1);
        TellerDays x = Check.bankOf("b0,20;k9,1;k9,1;k9,1;k9,1;");
        x.counter(0, 0);
        Check.due("four, open or not", x.count(1), 4);
    }

    private static void countQueue() {
        Check.due("no BANK", new TellerDays().count(2), 0);
        TellerDays x = Check.bankOf("b0,20;k9,1;d1;d1;d1;d1;d1;d1;");
        x.come(1, 1);
        Check.due("seven", x.count(2), 7);
        x.serve(6);
        Check.due("one", x.count(2), 1);
        x.dismiss();
        Check.due("none", x.count(2), 0);
    }

    private static void countTurns() {
        TellerDays x = Check.bankOf("b0,20;k9,1;d1;");
        Check.due("at first", x.count(3), 0);
        x.come(1, 1);
        x.counter(0, 0);
        x.swap();
        x.dismiss();
        Check.due("other ACTS are no TURNS", x.count(3), 0);
        x.serve(24);
        Check.due("TURNS without PAPERS, too", x.count(3), 24);
        x.undo();
        Check.due("undone", x.count(3), 23);
    }

    private static void countPaid() {
        TellerDays x = Check.bankOf("b0,20;y9,1;d9;d1;p3;d1;");
        x.serve(4);
        Check.due("PAID", x.count(4), 3);
        Check.due("UNPAID", x.count(5), 1);
        x.come(0, 1);
        x.dismiss();
        Check.due("sent away is UNPAID", x.count(5), 2);
        Check.due("PAID stays", x.count(4), 3);
        x.serve(1);
        Check.due("nobody there is not UNPAID", x.count(5), 2);
    }

    private static void countActs() {
        TellerDays x = Check.bankOf("b0,20;y9,1;");
        Check.due("none", x.count(6), 0);
        x.serve(23);
        Check.due("23", x.count(6), 23);
        x.come(1, 1);
        Check.due("24", x.count(6), 24);
        x.counter(0, 0);
        Check.due("24 yet", x.count(6), 24);
        x.undo();
        Check.due("23 again", x.count(6), 23);
    }

    private static void countBytes() {
        TellerDays x = new TellerDays();
        Check.due("none", x.count(7), 0);
        for (int n = 1; n <= 120; n++) {
            x.feed(0);
            Check.due("fed", x.count(7), n);
        }
        x.feed(0);
        Check.due("full", x.count(7), 120);
        x.bank();
        Check.due("read", x.count(7), 0);
    }

    private static void countBad() {
        for (int what : new int[] {MIN, -1, 8, MAX}) {
            Twin.refused(Pasts::rich, "count(" + what + ")", x -> x.count(what), Check.BAD);
            Twin.refused(Pasts::none, "count(" + what + "), no BANK", x -> x.count(what), Check.BAD);
        }
    }

    /** Each of the calls with a ROW, behind one that found something. */
    private static void statusOfRows() {
        for (int call = 0; call < 7; call++) {
            TellerDays x = new TellerDays();
            Pasts.rich(x);
            Check.due("found", x.status(), 2);
            withRow(x, call, 2);
            Check.due("call " + call + " without", x.status(), 0);
            if (call != 0) {
                withRow(x, call, 7);
                Check.due("call " + call + ", NULL", x.status(), 1);
            }
        }
    }

    private static int withRow(TellerDays x, int call, int row) {
        return switch (call) {
            case 0 -> x.row(row, 0, 1);
            case 1 -> x.set(row, 0, 1);
            case 2 -> x.copy(row, 0, row, 0, 1);
            case 3 -> x.drop(row);
            case 4 -> x.who(0, 0, 0, row, 0, 1);
            case 5 -> x.sums(0, row, 0, 1);
            default -> x.stayed(0, row, 0, 1);
        };
    }

    private static void statusOfAs() {
        TellerDays x = new TellerDays();
        Pasts.rich(x);
        x.as(0, 0);
        Check.due("without", x.status(), 0);
        x.as(0, 1);
        Check.due("KIND", x.status(), 3);
        x.as(0, 5);
        Check.due("without", x.status(), 0);
    }

    private static void statusOfRefused() {
        TellerDays x = new TellerDays();
        Pasts.emptyQueue(x);
        x.as(0, 1);
        x.as(0, 6);
        x.row(8, 0, 0);
        x.set(8, 0, 0);
        x.copy(8, 0, 0, 0, 0);
        x.drop(8);
        x.who(9, 0, 0, 0, 0, 1);
        x.sums(0, 0, 0, 1);
        x.stayed(9, 0, 0, 1);
        Check.due("these leave it", x.status(), 3);
        otherCalls(x);
        Check.due("calls without a ROW leave it, too", x.status(), 3);
    }

    private static void otherCalls(TellerDays x) {
        x.serve(1);
        x.serve(0);
        x.come(1, 1);
        x.counter(0, 0);
        x.dismiss();
        x.undo();
        x.feed('x');
        x.bank();
        x.image(1);
        x.restore(1);
        x.ask(0, 0);
        x.kind(0);
        x.status();
    }

    private static void numberOfFinding() {
        TellerDays x = new TellerDays();
        Pasts.rich(x);
        int[] answers = {x.set(7, 0, 0), x.set(0, 3, 0), x.as(0, 1), x.row(0, 0, -1), x.copy(0, 0, 1, 0, 1)};
        for (int number = 1; number <= 5; number++) {
            Check.due("FINDING " + number, answers[number - 1], -1000010 - number);
        }
        Check.due("of the latest", x.status(), 5);
        x.row(0, 0, -1);
        Check.due("SIZE", x.status(), 4);
        x.as(0, 1);
        Check.due("KIND", x.status(), 3);
        x.set(0, 3, 0);
        Check.due("PLACE", x.status(), 2);
        x.set(7, 0, 0);
        Check.due("NULL", x.status(), 1);
    }

    private static void noFinding() {
        TellerDays x = new TellerDays();
        Check.due("new", x.status(), 0);
        x.row(8, 0, 0);
        Check.due("one that was BAD", x.status(), 0);
        x.drop(0);
        Check.due("NULL", x.status(), 1);
        x.row(0, 0, 0);
        Check.due("it had none", x.status(), 0);
    }
}
