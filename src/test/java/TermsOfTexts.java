/** Terms, section 1: ROWS and TEXTS. */
final class TermsOfTexts {
    private static final String LAW = "b0,1;", TELLER = "c0,1;", PAPER = "d1;";

    private TermsOfTexts() {
    }

    static void quote() {
        Edge.of(0, "ROWS 0 .. 7 are missing (at first)", TermsOfTexts::rowsAreMissing);
        Edge.of(0, "or have a LANE (0 bytes, 1 shorts, 2 ints)", TermsOfTexts::lanes);
        Edge.of(0, "and 0 to 40 ITEMS", TermsOfTexts::itemsFrom0To40);
        Edge.of(0, "ITEMS, 0 at first.", TermsOfTexts::itemsAre0);
        Edge.of(0, "TEXTS: THE TAPE has at most 120 bytes, that come one by one", TermsOfTexts::tapeOf120);
        Edge.of(0, "TOKENS: letters a to z (each by itself)", TermsOfTexts::letters);
        Edge.of(0, "NUMBERS (figures, 2 at most)", TermsOfTexts::figures);
        Edge.of(0, "SIGNS , and ; nothing else.", TermsOfTexts::nothingElse);
        Edge.of(0, "bank: law teller { teller } { paper }.", TermsOfTexts::shapeOfABank);
        Edge.of(0, "law: b INFANCY , WEEK ; (0 to 20; 1 to 20).", TermsOfTexts::law);
        Edge.of(0, "teller: SORT DAYS , CARE ; (SORT: c a careful one, k a brisk one, o a rosy one, y a young one, n a brown one;",
            TermsOfTexts::sorts);
        Edge.of(0, "n a brown one; 0 to 60; 1 to 9;", TermsOfTexts::daysAndCares);
        Edge.of(0, "TELLERS 0 .. 3, 4 at most).", TermsOfTexts::fourTellers);
        Edge.of(0, "paper: d SUM ; or p SUM ; (a drawing, or a paying-in; 1 to 30;", TermsOfTexts::papers);
        Edge.of(0, "PAPERS 0 .. 6, 7 at most", TermsOfTexts::sevenPapers);
        Edge.of(0, "in THE QUEUE in this order).", TermsOfTexts::inThisOrder);
        Edge.of(0, "A BANK that is read stands in place of the one before (none at first):", TermsOfTexts::inPlace);
        Edge.of(0, "TURN 0, all counters are open, nobody was served; no ACT can be undone.", TermsOfTexts::newBank);
        Edge.of(0, "FAULTS, the first TOKEN that has one (its first byte)", TermsOfTexts::firstToken);
        Edge.of(0, "of one TOKEN the least:", TermsOfTexts::leastOfOneToken);
        Edge.of(0, "1 it cannot stand there", TermsOfTexts::cannotStandThere);
        Edge.of(0, "or is none (a run of three figures, at its first;", TermsOfTexts::threeFigures);
        Edge.of(0, "the end: how many bytes there are);", TermsOfTexts::theEnd);
        Edge.of(0, "2 a NUMBER that is not as told;", TermsOfTexts::notAsTold);
        Edge.of(0, "3 a teller, a paper more than there is room for (its letter).", TermsOfTexts::noRoom);
    }

    private static void fault(String text, int number, int place) {
        TellerDays x = new TellerDays();
        Check.due("'" + text + "'", Check.read(x, text), -1000100 - place);
        Check.due("'" + text + "', its FAULT", x.fault(), number);
    }

    private static void good(String text, int tellers) {
        TellerDays x = new TellerDays();
        Check.due("'" + text + "'", Check.read(x, text), tellers);
        Check.due("'" + text + "' has no FAULT", x.fault(), 0);
    }

    private static void rowsAreMissing() {
        TellerDays x = new TellerDays();
        for (int row = 0; row < 8; row++) {
            Check.due("drop(" + row + ")", x.drop(row), Check.NULL);
        }
        Check.due("drop(8)", x.drop(8), Check.BAD);
    }

    private static void lanes() {
        TellerDays x = new TellerDays();
        long[] most = {Byte.MAX_VALUE, Short.MAX_VALUE, Integer.MAX_VALUE};
        for (int lane = 0; lane < 3; lane++) {
            x.row(0, lane, 1);
            Check.due("the greatest of LANE " + lane, x.set(0, 0, (int) most[lane]), most[lane]);
            Check.due("one more", x.set(0, 0, (int) most[lane] + 1), -most[lane] - 1);
        }
    }

    private static void itemsFrom0To40() {
        TellerDays x = new TellerDays();
        Check.due("0", x.row(0, 0, 0), 0);
        Check.due("no place 0", x.set(0, 0, 1), Check.PLACE);
        Check.due("40", x.row(0, 0, 40), 40);
        Check.due("place 39", x.set(0, 39, 1), 1);
        Check.due("no place 40", x.set(0, 40, 1), Check.PLACE);
        Check.due("41", x.row(0, 0, 41), Check.BAD);
    }

    private static void itemsAre0() {
        TellerDays x = Check.bankOf("b0,20;y0,1;");
        for (int round = 0; round < 2; round++) {
            x.row(0, 0, 40);
            for (int i = 0; i < 40; i++) {
                Check.due("ITEM " + i + " is 0", x.stayed(0, 0, i, 1), 128);
            }
            for (int i = 0; i < 40; i++) {
                x.set(0, i, 1);
            }
        }
    }

    private static void tapeOf120() {
        TellerDays x = new TellerDays();
        for (int k = 1; k <= 120; k++) {
            Check.due("feed", x.feed('b'), k);
        }
        Check.due("one more", x.feed('b'), Check.FULL);
        Check.due("all are there", x.count(7), 120);
        Check.due("the second cannot stand there", x.bank(), -1000101);
    }

    private static void letters() {
        for (char letter = 'a'; letter <= 'z'; letter++) {
            boolean sort = "ckoyn".indexOf(letter) >= 0;
            boolean paper = letter == 'd' || letter == 'p';
            if (letter != 'b') {
                fault(letter + "0,1;", 1, 0);
            }
            if (sort) {
                good(LAW + letter + "0,1;", 1);
            } else {
                fault(LAW + letter + "0,1;", 1, 5);
            }
            if (paper) {
                good(LAW + TELLER + letter + "1;", 1);
            } else if (!sort) {
                fault(LAW + TELLER + letter + "1;", 1, 10);
            }
        }
        fault(LAW + TELLER + "dd1;", 1, 11);
        fault("bb0,1;", 1, 1);
    }

    private static void figures() {
        good("b0,1;c0,1;", 1);
        good("b09,09;c09,09;d09;", 1);
        good("b00,01;c00,01;p01;", 1);
        fault("b009,1;", 1, 1);
        fault("b0,001;", 1, 3);
        TellerDays x = Check.bankOf("b0,20;c07,08;d09;");
        Check.due("07", x.teller(0, 0), 7);
        Check.due("08", x.teller(0, 1), 8);
        Check.due("09", x.paper(0, 0), 9);
    }

    /** Every byte that is no TOKEN's, and every other TOKEN, is a FAULT where another is due. */
    private static void nothingElse() {
        String text = "b0,1;c0,1;d1;";
        for (int place : new int[] {0, 2, 4, 5, 7, 9, 10, 12}) {
            for (int one = 0; one < 256; one++) {
                char letter = (char) one;
                boolean figure = letter >= '0' && letter <= '9';
                boolean may = letter == text.charAt(place) || place == 5 && "koyn".indexOf(letter) >= 0
                    || place == 10 && "pckoyn".indexOf(letter) >= 0;
                // A figure behind a figure is of one NUMBER with it.
                if (!may && !(figure && "0123456789".indexOf(text.charAt(Math.max(0, place - 1))) >= 0)) {
                    fault(text.substring(0, place) + letter + text.substring(place + 1), 1, place);
                }
            }
        }
        fault(text + " ", 1, 13);
        fault(text + "\n", 1, 13);
    }

    private static void shapeOfABank() {
        good(LAW + TELLER, 1);
        good(LAW + TELLER + TELLER + TELLER + TELLER, 4);
        good(LAW + TELLER + PAPER, 1);
        good(LAW + TELLER + TELLER + PAPER + PAPER + PAPER, 2);
        fault(LAW, 1, 5);
        fault(LAW + PAPER, 1, 5);
        fault(LAW + LAW, 1, 5);
        fault(TELLER + PAPER, 1, 0);
        fault(LAW + TELLER + LAW, 1, 10);
        fault(LAW + TELLER + PAPER + TELLER, 1, 13);
        fault(LAW + TELLER + PAPER + LAW, 1, 13);
    }

    private static void law() {
        good("b0,1;" + TELLER, 1);
        good("b20,20;" + TELLER, 1);
        fault("b21,1;" + TELLER, 2, 1);
        fault("b99,1;" + TELLER, 2, 1);
        fault("b0,0;" + TELLER, 2, 3);
        fault("b0,21;" + TELLER, 2, 3);
        fault("b20,21;" + TELLER, 2, 4);
        TellerDays x = Check.bankOf("b20,20;y20,1;n30,1;d1;");
        Check.due("INFANCY 20", x.infant(), 0);
        x.serve(19);
        Check.due("WEEK 20, not yet", x.teller(1, 2), 29);
        x.serve(1);
        Check.due("WEEK 20", x.teller(1, 2), 30);
    }

    private static void sorts() {
        String sorts = "ckoyn";
        for (int k = 0; k < 5; k++) {
            TellerDays x = Check.bankOf(LAW + sorts.charAt(k) + "12,3;");
            Check.due("kind of " + sorts.charAt(k), x.kind(0), k + 1);
            Check.due("DAYS", x.teller(0, 0), 12);
            Check.due("CARE", x.teller(0, 1), 3);
            Check.due("LEFT", x.teller(0, 2), 12);
        }
        fault(LAW + "c12;", 1, 8);
        fault(LAW + "c12,;", 1, 9);
        fault(LAW + "c,3;", 1, 6);
    }

    private static void daysAndCares() {
        good(LAW + "c0,1;", 1);
        good(LAW + "c60,9;", 1);
        fault(LAW + "c61,1;", 2, 6);
        fault(LAW + "c99,1;", 2, 6);
        fault(LAW + "c0,0;", 2, 8);
        fault(LAW + "c0,00;", 2, 8);
        fault(LAW + "c0,10;", 2, 8);
        fault(LAW + "c60,10;", 2, 9);
    }

    private static void fourTellers() {
        TellerDays x = Check.bankOf(LAW + "y1,1;y2,1;y3,1;y4,1;");
        for (int t = 0; t < 4; t++) {
            Check.due("TELLER " + t, x.teller(t, 0), t + 1);
        }
        Check.due("TELLER 4", x.teller(4, 0), Check.BAD);
        fault(LAW + "y1,1;y2,1;y3,1;y4,1;y5,1;", 3, 25);
    }

    private static void papers() {
        TellerDays x = Check.bankOf(LAW + TELLER + "d1;p1;d30;p30;");
        int[][] want = {{1, 1}, {1, 0}, {30, 1}, {30, 0}};
        for (int p = 0; p < 4; p++) {
            Check.due("SUM of " + p, x.paper(p, 0), want[p][0]);
            Check.due("a drawing: " + p, x.paper(p, 1), want[p][1]);
        }
        fault(LAW + TELLER + "d0;", 2, 11);
        fault(LAW + TELLER + "p0;", 2, 11);
        fault(LAW + TELLER + "d31;", 2, 11);
        fault(LAW + TELLER + "p31;", 2, 11);
        fault(LAW + TELLER + "d;", 1, 11);
        fault(LAW + TELLER + "d1,1;", 1, 12);
    }

    private static void sevenPapers() {
        TellerDays x = Check.bankOf(LAW + TELLER + "d1;d2;d3;d4;d5;d6;d7;");
        Check.due("seven", x.count(2), 7);
        Check.due("the last", x.paper(6, 0), 7);
        fault(LAW + TELLER + "d1;d2;d3;d4;d5;d6;d7;d8;", 3, 31);
        TellerDays none = Check.bankOf(LAW + TELLER);
        Check.due("none is fine", none.count(2), 0);
        for (int p = 0; p < 7; p++) {
            Check.due("paper(" + p + ", 0), never there", none.paper(p, 0), Check.BAD);
        }
    }

    private static void inThisOrder() {
        TellerDays x = Check.bankOf(LAW + TELLER + "d9;p5;d7;");
        int[] sums = {9, 5, 7};
        for (int k = 0; k < 3; k++) {
            Check.due("place " + k, x.queue(k), k);
            Check.due("its SUM", x.paper(k, 0), sums[k]);
        }
    }

    private static void inPlace() {
        TellerDays x = new TellerDays();
        Check.due("none at first", x.count(1), 0);
        Check.read(x, "b5,1;n9,2;y7,1;d1;d2;d3;");
        Check.read(x, "b0,20;k8,3;p4;");
        Check.due("TELLERS", x.count(1), 1);
        Check.due("KIND", x.kind(0), 2);
        Check.due("no second TELLER", x.kind(1), Check.BAD);
        Check.due("PAPERS", x.count(2), 1);
        Check.due("no second PAPER", x.paper(1, 0), Check.BAD);
        // INFANCY 0: the brisk one has 8 to give, so half of 15, and 1; his CARE is 3.
        Check.due("INFANCY", x.most(), 18);
        tellersBeforeDoNotCount();
    }

    private static void tellersBeforeDoNotCount() {
        TellerDays x = new TellerDays();
        Check.read(x, "b0,1;n9,1;n9,1;n9,1;n9,1;d1;");
        Check.read(x, "b0,20;y9,1;y8,1;");
        Check.due("no third who has 9", x.twins(0), 0);
        Check.due("no third who has 9", x.twins(1), Check.NONE);
        Check.due("no third to whom 30 is 9", x.cheap(30, 0), 0);
        Check.due("all have", x.order(-2), 17);
        Check.due("all have", x.drawn(0, 1, 1), 17);
        Check.due("the poorest has", x.share(-1), 8);
        Check.due("no PAPER ever was there", x.paper(0, 0), Check.BAD);
        Check.due("one who has none is not like nobody", Check.bankOf("b0,20;y0,1;y1,1;").twins(0), 0);
    }

    private static void newBank() {
        TellerDays x = new TellerDays();
        Check.read(x, "b0,20;y9,1;y8,1;d1;d2;d20;p1;");
        x.serve(3);
        x.counter(1, 0);
        x.dismiss();
        Check.read(x, "b0,20;y9,1;y8,1;d1;");
        Check.due("TURN", x.count(3), 0);
        Check.due("open", x.teller(1, 3), 1);
        Check.due("PAID", x.count(4), 0);
        Check.due("UNPAID", x.count(5), 0);
        Check.due("served", x.teller(0, 4), 0);
        Check.due("ACTS", x.count(6), 0);
        Check.due("undo()", x.undo(), Check.STATE);
    }

    private static void firstToken() {
        fault("b21,0;", 2, 1);
        fault("b0,0x", 2, 3);
        fault("b20,21;c61,0;", 2, 4);
        fault(LAW + "c60,10;d31;", 2, 9);
        fault(LAW + TELLER + "d31", 2, 11);
        fault("x21", 1, 0);
    }

    private static void leastOfOneToken() {
        // A NUMBER that is not as told, where none can stand; one that is none, and not as told, too.
        fault("99", 1, 0);
        fault(LAW + "99", 1, 5);
        fault(LAW + TELLER + "99;", 1, 10);
        fault("b210,1;", 1, 1);
        // A fifth teller behind a paper cannot stand there at all.
        fault(LAW + TELLER + TELLER + TELLER + TELLER + PAPER + TELLER, 1, 28);
    }

    private static void cannotStandThere() {
        fault("d1;", 1, 0);
        fault("b;", 1, 1);
        fault("b0;", 1, 2);
        fault("b0,,", 1, 3);
        fault("b0,1,", 1, 4);
        fault(LAW + ";", 1, 5);
        fault(LAW + "c;", 1, 6);
        fault(LAW + "cc", 1, 6);
        fault(LAW + TELLER + ",", 1, 10);
        fault(LAW + TELLER + "d1d1;", 1, 12);
    }

    private static void threeFigures() {
        fault("b000,1;", 1, 1);
        fault("b20,100;", 1, 4);
        fault(LAW + "c060,1;", 1, 6);
        fault(LAW + "c60,009;", 1, 9);
        fault(LAW + TELLER + "d030;", 1, 11);
        fault(LAW + TELLER + "d0300;", 1, 11);
        fault(LAW + TELLER + "d111", 1, 11);
        fault("123", 1, 0);
    }

    private static void theEnd() {
        String text = "b10,12;c34,5;d16;";
        // Ends where something more is due: behind each TOKEN, but behind a teller and behind a paper.
        int[] ends = {0, 1, 3, 4, 6, 7, 8, 10, 11, 12, 14, 16};
        for (int end : ends) {
            fault(text.substring(0, end), 1, end);
        }
        good(text.substring(0, 13), 1);
        good(text, 1);
    }

    private static void notAsTold() {
        fault("b21,1;", 2, 1);
        fault("b20,00;", 2, 4);
        fault(LAW + "c61,1;", 2, 6);
        fault(LAW + "c60,0;", 2, 9);
        fault(LAW + TELLER + "d00;", 2, 11);
        fault(LAW + TELLER + "p31;", 2, 11);
        fault(LAW + TELLER + "p99", 2, 11);
    }

    private static void noRoom() {
        String four = LAW + TELLER + TELLER + TELLER + TELLER;
        for (char sort : "ckoyn".toCharArray()) {
            fault(four + sort, 3, 25);
            fault(four + sort + "61,0;", 3, 25);
        }
        String seven = LAW + TELLER + PAPER + PAPER + PAPER + PAPER + PAPER + PAPER + PAPER;
        fault(seven + "d", 3, 31);
        fault(seven + "p0;", 3, 31);
        good(four + PAPER, 4);
    }
}
