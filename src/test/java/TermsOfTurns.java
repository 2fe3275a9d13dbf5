/** Terms, section 2: COST, TURNS and ACTS. */
final class TermsOfTurns {
    private TermsOfTurns() {
    }

    static void quote() {
        Edge.of(0, "COST of a drawing of SUM to a TELLER: to a careful one SUM less CARE (1 at least);", TermsOfTurns::careful);
        Edge.of(0, "to a brisk one half of that (cut), and 1 more;", TermsOfTurns::brisk);
        Edge.of(0, "to a rosy one as to a careful one, and 2 more;", TermsOfTurns::rosy);
        Edge.of(0, "to a young one SUM;", TermsOfTurns::young);
        Edge.of(0, "to a brown one that, but 9 at most.", TermsOfTurns::brown);
        Edge.of(0, "DAYS he has LEFT are 0 to 99.", TermsOfTurns::leftFrom0To99);
        turns();
        acts();
    }

    private static void turns() {
        Edge.of(0, "A TURN: the first PAPER of THE QUEUE", TermsOfTurns::theFirstIsServed);
        Edge.of(0, "(if there is one) is served.", TermsOfTurns::ifThereIsOne);
        Edge.of(0, "A drawing: by the open TELLER", TermsOfTurns::drawingByAnOpenOne);
        Edge.of(0, "who has most LEFT of those", TermsOfTurns::drawingByTheRichest);
        Edge.of(0, "who would have INFANCY or more LEFT behind its COST", TermsOfTurns::drawingToInfancy);
        Edge.of(0, "COST, of several the first;", TermsOfTurns::drawingByTheFirst);
        Edge.of(0, "he has COST less LEFT, it is PAID;", TermsOfTurns::drawingIsPaid);
        Edge.of(0, "if there is none, it is UNPAID.", TermsOfTurns::drawingIsUnpaid);
        Edge.of(0, "A paying-in: by the open TELLER who has least LEFT", TermsOfTurns::payingInToThePoorest);
        Edge.of(0, "least LEFT, of several the first:", TermsOfTurns::payingInToTheFirst);
        Edge.of(0, "he has SUM more LEFT (99 at most), it is PAID;", TermsOfTurns::payingIn99AtMost);
        Edge.of(0, "if no counter is open, it is UNPAID.", TermsOfTurns::payingInIsUnpaid);
        Edge.of(0, "Either way it is in THE QUEUE no more.", TermsOfTurns::inTheQueueNoMore);
        Edge.of(0, "Then, if TURN and 1 is a multiple of WEEK", TermsOfTurns::weeksEnd);
        Edge.of(0, "each brown one", TermsOfTurns::eachBrownOne);
        Edge.of(0, "who has less LEFT than told has 1 more.", TermsOfTurns::lessThanTold);
        Edge.of(0, "TURN is 1 more.", TermsOfTurns::turnIs1More);
    }

    private static void acts() {
        Edge.of(0, "ACTS (24 at most are kept", TermsOfTurns::kept24);
        Edge.of(0, "of more the oldest is forgotten;", TermsOfTurns::oldestIsForgotten);
        Edge.of(0, "each can be undone, the latest first):", TermsOfTurns::latestFirst);
        Edge.of(0, "a TURN;", TermsOfTurns::turnIsUndone);
        Edge.of(0, "a counter is shut, or opened;", TermsOfTurns::counterIsUndone);
        Edge.of(0, "a PAPER comes behind THE QUEUE", TermsOfTurns::comingIsUndone);
        Edge.of(0, "(7 there at most;", TermsOfTurns::sevenAtMost);
        Edge.of(0, "it takes the least number that is in THE QUEUE no more);", TermsOfTurns::leastNumber);
        Edge.of(0, "the first one is sent away (UNPAID);", TermsOfTurns::sendingAwayIsUndone);
        Edge.of(0, "the first two of THE QUEUE are swapped.", TermsOfTurns::swapIsUndone);
    }

    private static void costs(String teller, int[] sums, int[] want) {
        TellerDays x = Check.bankOf("b0,20;" + teller);
        for (int k = 0; k < sums.length; k++) {
            Check.due(teller + " cost(0, " + sums[k] + ")", x.cost(0, sums[k]), want[k]);
        }
    }

    private static void careful() {
        costs("c9,5;", new int[] {1, 4, 5, 6, 7, 30}, new int[] {1, 1, 1, 1, 2, 25});
        costs("c9,9;", new int[] {1, 9, 10, 11, 30}, new int[] {1, 1, 1, 2, 21});
        costs("c9,1;", new int[] {1, 2, 3, 30}, new int[] {1, 1, 2, 29});
    }

    private static void brisk() {
        costs("k9,5;", new int[] {1, 5, 6, 7, 8, 9, 30}, new int[] {1, 1, 1, 2, 2, 3, 13});
        costs("k9,1;", new int[] {1, 2, 3, 4, 30}, new int[] {1, 1, 2, 2, 15});
    }

    private static void rosy() {
        costs("o9,5;", new int[] {1, 5, 6, 7, 30}, new int[] {3, 3, 3, 4, 27});
    }

    private static void young() {
        costs("y9,9;", new int[] {1, 2, 9, 10, 30}, new int[] {1, 2, 9, 10, 30});
    }

    private static void brown() {
        costs("n9,9;", new int[] {1, 8, 9, 10, 30}, new int[] {1, 8, 9, 9, 9});
    }

    private static void leftFrom0To99() {
        TellerDays x = Check.bankOf("b0,20;y9,1;d9;d1;");
        x.serve(2);
        Check.due("0, not less", x.teller(0, 2), 0);
        TellerDays y = Check.bankOf("b0,20;y60,1;p30;p9;p1;");
        Check.due("behind two", y.ahead(0, 2), 99);
        Check.due("behind three", y.ahead(0, 3), 99);
    }

    private static void theFirstIsServed() {
        TellerDays x = Check.bankOf("b0,20;y60,1;d5;d9;");
        x.swap();
        x.serve(1);
        Check.due("9", x.teller(0, 2), 51);
        Check.due("the other is there yet", x.queue(0), 0);
    }

    private static void ifThereIsOne() {
        TellerDays x = Check.bankOf("b0,2;n9,1;d5;");
        x.serve(1);
        x.serve(1);
        Check.due("the week ends yet", x.teller(0, 2), 5);
        Check.due("TURN", x.count(3), 2);
        Check.due("PAID", x.count(4), 1);
        Check.due("UNPAID", x.count(5), 0);
        Check.due("it is an ACT", x.count(6), 2);
    }

    private static void drawingByAnOpenOne() {
        TellerDays x = Check.bankOf("b0,20;y60,1;y9,1;d5;");
        x.counter(0, 0);
        x.serve(1);
        Check.due("the open one", x.teller(1, 2), 4);
        Check.due("not the shut one", x.teller(0, 2), 60);
    }

    private static void drawingByTheRichest() {
        TellerDays x = Check.bankOf("b0,20;y9,1;y10,1;k8,9;d5;");
        x.serve(1);
        Check.due("10 to 5", x.teller(1, 2), 5);
        // The richest cannot pay it, though: a brown one with less can.
        TellerDays y = Check.bankOf("b0,20;y15,1;n10,1;n12,1;d16;");
        y.serve(1);
        Check.due("12 to 3", y.teller(2, 2), 3);
    }

    private static void drawingToInfancy() {
        TellerDays x = Check.bankOf("b5,20;y9,1;d4;");
        x.serve(1);
        Check.due("to INFANCY itself", x.teller(0, 2), 5);
        TellerDays y = Check.bankOf("b5,20;y9,1;d5;");
        y.serve(1);
        Check.due("not below it", y.teller(0, 2), 9);
        TellerDays z = Check.bankOf("b20,20;y20,1;d1;");
        z.serve(1);
        Check.due("not from it", z.count(5), 1);
    }

    private static void drawingByTheFirst() {
        TellerDays x = Check.bankOf("b0,20;y8,1;y9,1;y9,1;y9,1;d1;");
        x.serve(1);
        Check.due("1", x.teller(1, 2), 8);
        Check.due("not 2", x.teller(2, 2), 9);
        Check.due("not 3", x.teller(3, 2), 9);
    }

    private static void drawingIsPaid() {
        TellerDays x = Check.bankOf("b0,20;k30,4;d11;");
        x.serve(1);
        Check.due("less half of 7, and 1", x.teller(0, 2), 26);
        Check.due("PAID", x.count(4), 1);
        Check.due("UNPAID", x.count(5), 0);
        Check.due("he served", x.teller(0, 4), 1);
    }

    private static void drawingIsUnpaid() {
        TellerDays x = Check.bankOf("b0,20;y5,1;y4,1;d6;");
        x.serve(1);
        Check.due("UNPAID", x.count(5), 1);
        Check.due("PAID", x.count(4), 0);
        Check.due("LEFT", x.teller(0, 2), 5);
        Check.due("nobody served", x.teller(0, 4) + x.teller(1, 4), 0);
        TellerDays shut = Check.bankOf("b0,20;y5,1;d1;");
        shut.counter(0, 0);
        shut.serve(1);
        Check.due("no counter is open", shut.count(5), 1);
    }

    private static void payingInToThePoorest() {
        TellerDays x = Check.bankOf("b5,20;y9,1;y2,1;y3,1;p5;");
        x.counter(1, 0);
        x.serve(1);
        Check.due("3 to 8, below INFANCY or not", x.teller(2, 2), 8);
        Check.due("not the shut one", x.teller(1, 2), 2);
        Check.due("he served", x.teller(2, 4), 1);
    }

    private static void payingInToTheFirst() {
        TellerDays x = Check.bankOf("b0,20;y9,1;y2,1;y2,1;p5;");
        x.serve(1);
        Check.due("1", x.teller(1, 2), 7);
        Check.due("not 2", x.teller(2, 2), 2);
    }

    private static void payingIn99AtMost() {
        int[][] want = {{29, 99}, {30, 99}, {28, 98}};
        for (int[] w : want) {
            TellerDays x = Check.bankOf("b0,20;y60,1;p10;p" + w[0] + ";");
            x.serve(2);
            Check.due("70 and " + w[0], x.teller(0, 2), w[1]);
            Check.due("PAID", x.count(4), 2);
        }
    }

    private static void payingInIsUnpaid() {
        TellerDays x = Check.bankOf("b0,20;y9,1;p5;");
        x.counter(0, 0);
        x.serve(1);
        Check.due("UNPAID", x.count(5), 1);
        Check.due("PAID", x.count(4), 0);
        Check.due("LEFT", x.teller(0, 2), 9);
    }

    private static void inTheQueueNoMore() {
        TellerDays x = Check.bankOf("b0,20;y9,1;d5;d5;p1;d1;");
        for (int p = 0; p < 4; p++) {
            Check.due("there yet", x.paper(p, 2), 0);
            Check.due("then", x.serve(1), 3 - p);
            Check.due("no more", x.paper(p, 2), Check.NONE);
        }
    }

    private static void weeksEnd() {
        TellerDays x = Check.bankOf("b0,3;n60,1;d9;d9;");
        int[] left = {60, 51, 42, 43, 43, 43, 44, 44, 44, 45};
        for (int n = 0; n < left.length; n++) {
            Check.due("ahead(0, " + n + ")", x.ahead(0, n), left[n]);
        }
        TellerDays each = Check.bankOf("b0,1;n60,1;d9;");
        Check.due("WEEK 1: each TURN", each.ahead(0, 1), 52);
        Check.due("WEEK 1: each TURN", each.ahead(0, 2), 53);
        TellerDays late = Check.bankOf("b0,20;n60,1;d9;");
        Check.due("WEEK 20: behind 19", late.ahead(0, 19), 51);
        Check.due("WEEK 20: behind 20", late.ahead(0, 20), 52);
        x.dismiss();
        Check.due("one that is sent away is no TURN", x.ahead(0, 3), 52);
    }

    private static void eachBrownOne() {
        TellerDays x = Check.bankOf("b0,2;n20,1;n20,1;d9;d9;");
        x.serve(2);
        Check.due("the first", x.teller(0, 2), 12);
        Check.due("the other", x.teller(1, 2), 12);
        x.counter(1, 0);
        x.serve(2);
        Check.due("open", x.teller(0, 2), 13);
        Check.due("shut", x.teller(1, 2), 13);
        TellerDays y = Check.bankOf("b0,2;y20,1;c19,1;k18,1;o17,1;d9;");
        y.serve(2);
        Check.due("a young one has no more", y.teller(0, 2), 11);
        TellerDays careful = Check.bankOf("b0,1;c20,1;d9;");
        careful.serve(2);
        Check.due("a careful one has no more", careful.teller(0, 2), 12);
    }

    private static void lessThanTold() {
        TellerDays x = Check.bankOf("b0,1;n20,1;d1;d2;");
        x.serve(1);
        Check.due("one less: as told again", x.teller(0, 2), 20);
        x.serve(1);
        Check.due("two less: one more", x.teller(0, 2), 19);
        x.serve(1);
        Check.due("as told", x.teller(0, 2), 20);
        x.serve(1);
        Check.due("not above", x.teller(0, 2), 20);
        TellerDays rich = Check.bankOf("b0,1;n20,1;p5;d1;");
        rich.serve(2);
        Check.due("more than told: no more", rich.teller(0, 2), 24);
    }

    private static void turnIs1More() {
        TellerDays x = Check.bankOf("b0,20;y9,1;d1;d30;p1;");
        for (int n = 1; n <= 4; n++) {
            x.serve(1);
            Check.due("PAID, UNPAID, or nobody there", x.count(3), n);
        }
    }

    private static void kept24() {
        TellerDays x = Check.bankOf("b0,20;y9,1;");
        for (int k = 1; k <= 30; k++) {
            x.counter(0, k % 2 == 0 ? 1 : 0);
            Check.due("ACTS", x.count(6), Math.min(k, 24));
        }
    }

    private static void oldestIsForgotten() {
        TellerDays x = Check.bankOf("b0,20;y60,1;d1;d2;d3;");
        x.serve(1);
        x.serve(1);
        x.serve(23);
        for (int k = 23; k >= 0; k--) {
            Check.due("undo()", x.undo(), k);
        }
        Check.due("no more", x.undo(), Check.STATE);
        Check.due("the first TURN stays done", x.teller(0, 2), 59);
        Check.due("the second is undone", x.queue(0), 1);
        Check.due("TURN", x.count(3), 1);
        x.serve(24);
        x.serve(24);
        for (int k = 0; k < 24; k++) {
            x.undo();
        }
        Check.due("of 48 the latest 24", x.count(3), 25);
    }

    private static void latestFirst() {
        TellerDays x = Check.bankOf("b0,20;y60,1;d1;d2;d3;");
        x.counter(0, 0);
        x.swap();
        x.serve(1);
        x.undo();
        Check.due("the TURN", x.count(2), 3);
        Check.due("not yet the swap", x.queue(0), 1);
        x.undo();
        Check.due("the swap", x.queue(0), 0);
        Check.due("not yet the counter", x.teller(0, 3), 0);
        x.undo();
        Check.due("the counter", x.teller(0, 3), 1);
    }

    private static void turnIsUndone() {
        TellerDays x = Check.bankOf("b0,1;n20,1;d9;d30;p30;d30;d9;");
        int[] left = new int[7];
        for (int n = 0; n < 6; n++) {
            left[n] = x.teller(0, 2);
            x.serve(1);
        }
        for (int n = 5; n >= 0; n--) {
            x.undo();
            Check.due("LEFT", x.teller(0, 2), left[n]);
            Check.due("TURN", x.count(3), n);
            Check.due("in THE QUEUE", x.count(2), 5 - Math.min(n, 5));
            Check.due("PAID and UNPAID", x.count(4) + x.count(5), Math.min(n, 5));
            Check.due("served", x.teller(0, 4), x.count(4));
        }
        Check.due("PAID", x.count(4), 0);
    }

    private static void counterIsUndone() {
        TellerDays x = Check.bankOf("b0,20;y9,1;y8,1;");
        x.counter(1, 0);
        x.counter(1, 1);
        x.undo();
        Check.due("shut again", x.teller(1, 3), 0);
        x.undo();
        Check.due("open again", x.teller(1, 3), 1);
    }

    private static void comingIsUndone() {
        TellerDays x = Check.bankOf("b0,20;y60,1;d7;d8;");
        x.serve(1);
        Check.due("behind THE QUEUE", x.come(0, 9), 0);
        Check.due("its place", x.paper(0, 2), 1);
        x.undo();
        Check.due("one is there", x.count(2), 1);
        Check.due("0 is the one before", x.paper(0, 0), 7);
        Check.due("a drawing", x.paper(0, 1), 1);
        Check.due("not in THE QUEUE", x.paper(0, 2), Check.NONE);
        Check.due("it may come anew", x.come(1, 3), 0);
        Check.due("and another", x.come(1, 3), 2);
        x.undo();
        Check.due("2 never was there", x.paper(2, 0), Check.BAD);
    }

    private static void sevenAtMost() {
        TellerDays x = Check.bankOf("b0,20;y60,1;");
        for (int k = 0; k < 7; k++) {
            Check.due("come", x.come(1, 1), k);
        }
        Check.due("the eighth", x.come(1, 1), Check.FULL);
        Check.due("there", x.count(2), 7);
        x.dismiss();
        Check.due("room again", x.come(1, 1), 0);
    }

    private static void leastNumber() {
        TellerDays x = Check.bankOf("b0,20;y60,1;d1;d1;d1;d1;d1;d1;d1;");
        x.serve(3);
        x.swap();
        x.dismiss();
        // 0, 1, 2 and 4 have left.
        int[] numbers = {0, 1, 2, 4};
        for (int number : numbers) {
            Check.due("come", x.come(0, 9), number);
        }
        int[] queue = {3, 5, 6, 0, 1, 2, 4};
        for (int k = 0; k < 7; k++) {
            Check.due("queue(" + k + ")", x.queue(k), queue[k]);
        }
    }

    private static void sendingAwayIsUndone() {
        TellerDays x = Check.bankOf("b0,20;y60,1;d7;d8;");
        x.dismiss();
        Check.due("UNPAID", x.count(5), 1);
        x.undo();
        Check.due("first again", x.queue(0), 0);
        Check.due("not UNPAID", x.count(5), 0);
    }

    private static void swapIsUndone() {
        TellerDays x = Check.bankOf("b0,20;y60,1;d7;d8;d9;");
        x.swap();
        x.undo();
        for (int k = 0; k < 3; k++) {
            Check.due("queue(" + k + ")", x.queue(k), k);
        }
    }
}
