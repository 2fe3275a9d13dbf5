/** Promises 1, 6, 7 and 8. */
public final class TapeTest {
    private static final String LAW = "b0,1;", TELLER = "c0,1;";

    public static void main(String[] args) {
        newObjectHasNoBank();
        bytesComeOneByOne();
        banksAreRead();
        faultsOfTheLaw();
        faultsOfTellers();
        faultsOfPapers();
        faultLeavesAllElse();
        readingStandsInPlace();
        Check.end();
    }

    private static void newObjectHasNoBank() {
        TellerDays x = new TellerDays();
        for (int what = 0; what < 8; what++) {
            Check.due("count(" + what + ")", x.count(what), 0);
        }
        Check.due("fault", x.fault(), 0);
        Check.due("status", x.status(), 0);
        Check.due("holds", x.holds(), Check.STATE);
        Check.due("serve, BAD too", x.serve(0), Check.STATE);
        Check.due("come, BAD too", x.come(2, 0), Check.STATE);
        Check.due("queue, BAD too", x.queue(-1), Check.STATE);
        Check.due("waiting, BAD too", x.waiting(-1), Check.STATE);
        Check.due("order, BAD too", x.order(-3), Check.STATE);
        Check.due("share, BAD too", x.share(-2), Check.STATE);
        Check.due("open, BAD too", x.open(2), Check.STATE);
        Check.due("cheap, BAD too", x.cheap(0, 0), Check.STATE);
        Check.due("twins, BAD too", x.twins(2), Check.STATE);
        Check.due("away, BAD too", x.away(11, 0), Check.STATE);
        Check.due("drawn, BAD too", x.drawn(61, 0, 2), Check.STATE);
        Check.due("image, BAD ahead", x.image(-1), Check.BAD);
        Check.due("server", x.server(0), Check.BAD);
    }

    private static void bytesComeOneByOne() {
        TellerDays x = new TellerDays();
        Check.due("-1", x.feed(-1), Check.BAD);
        Check.due("256", x.feed(256), Check.BAD);
        for (int i = 1; i <= 120; i++) {
            Check.due("feed", x.feed(i % 2 == 0 ? 0 : 255), i);
        }
        Check.due("full", x.feed(65), Check.FULL);
        Check.due("BAD ahead of FULL", x.feed(256), Check.BAD);
        Check.due("count(7)", x.count(7), 120);
        Check.due("bank", x.bank(), -1000100);
        Check.due("count(7) behind", x.count(7), 0);
    }

    private static void fault(String text, int number, int place) {
        TellerDays x = new TellerDays();
        Check.due(text, Check.read(x, text), -1000100 - place);
        Check.due(text + " fault", x.fault(), number);
        Check.due(text + " no bank", x.count(1), 0);
    }

    private static void good(String text, int tellers, int papers) {
        TellerDays x = new TellerDays();
        Check.due(text, Check.read(x, text), tellers);
        Check.due(text + " papers", x.count(2), papers);
        Check.due(text + " fault", x.fault(), 0);
    }

    private static void banksAreRead() {
        good("b0,1;c0,1;", 1, 0);
        good("b20,20;k60,9;o00,01;y07,5;n9,9;d1;p30;d01;p09;d2;d3;d4;", 4, 7);
        good("b00,01;n60,9;p1;", 1, 1);
        TellerDays x = Check.bankOf("b3,2;c20,2;k9,5;o9,9;y8,1;d12;p4;");
        int[] kinds = {1, 2, 3, 4};
        for (int t = 0; t < 4; t++) {
            Check.due("kind " + t, x.kind(t), kinds[t]);
        }
        Check.due("sum 0", x.paper(0, 0), 12);
        Check.due("draws 0", x.paper(0, 1), 1);
        Check.due("sum 1", x.paper(1, 0), 4);
        Check.due("draws 1", x.paper(1, 1), 0);
        Check.due("brown", Check.bankOf("b0,1;n1,1;").kind(0), 5);
    }

    private static void faultsOfTheLaw() {
        fault("", 1, 0);
        fault("c0,1;", 1, 0);
        fault("B0,1;", 1, 0);
        fault(" b0,1;", 1, 0);
        fault("b", 1, 1);
        fault("b,", 1, 1);
        fault("bb0,1;", 1, 1);
        fault("b000,1;", 1, 1);
        fault("b0000,1;", 1, 1);
        fault("b21,1;", 2, 1);
        fault("b21x", 2, 1);
        fault("b0", 1, 2);
        fault("b0;1;", 1, 2);
        fault("b0 ,1;", 1, 2);
        fault("b0,0;", 2, 3);
        fault("b0,00;", 2, 3);
        fault("b0,21;", 2, 3);
        fault("b0,123;", 1, 3);
        fault("b0,;", 1, 3);
        fault("b0,1,", 1, 4);
        fault("b0,1;", 1, 5);
        fault("b20,20", 1, 6);
    }

    private static void faultsOfTellers() {
        fault(LAW + "d1;", 1, 5);
        fault(LAW + "b0,1;", 1, 5);
        fault(LAW + ";", 1, 5);
        fault(LAW + "c", 1, 6);
        fault(LAW + "c61,1;", 2, 6);
        fault(LAW + "c061,1;", 1, 6);
        fault(LAW + "c60;", 1, 8);
        fault(LAW + "c0,0;", 2, 8);
        fault(LAW + "c0,10;", 2, 8);
        fault(LAW + "c0,1", 1, 9);
        fault(LAW + TELLER + "x", 1, 10);
        fault(LAW + TELLER + "b", 1, 10);
        fault(LAW + TELLER + "5", 1, 10);
        fault(LAW + TELLER + TELLER + TELLER + TELLER + TELLER, 3, 25);
        fault(LAW + TELLER + TELLER + TELLER + TELLER + "n", 3, 25);
        fault(LAW + TELLER + TELLER + TELLER + TELLER + "z", 1, 25);
        fault(LAW + TELLER + TELLER + TELLER + "y61,1;" + TELLER, 2, 21);
    }

    private static void faultsOfPapers() {
        fault(LAW + TELLER + "d", 1, 11);
        fault(LAW + TELLER + "d0;", 2, 11);
        fault(LAW + TELLER + "p31;", 2, 11);
        fault(LAW + TELLER + "p300;", 1, 11);
        fault(LAW + TELLER + "d1", 1, 12);
        fault(LAW + TELLER + "d1,", 1, 12);
        fault(LAW + TELLER + "d1;" + TELLER, 1, 13);
        fault(LAW + TELLER + "d1;;", 1, 13);
        fault(LAW + TELLER + "d1;d1;d1;d1;d1;d1;d1;d1;", 3, 31);
        fault(LAW + TELLER + "d1;d1;d1;d1;d1;d1;d1;p", 3, 31);
        fault(LAW + TELLER + "d1;d1;d1;d1;d1;d1;d1;c", 1, 31);
        fault(LAW + TELLER + "d1;d1;d1;d1;d1;d1;d1;" + (char) 0, 1, 31);
        fault(LAW + TELLER + "d1;d1;d1;d1;d1;d1;d1;" + (char) 255, 1, 31);
    }

    private static void faultLeavesAllElse() {
        TellerDays x = Check.bankOf("b0,1;y9,1;d4;");
        x.serve(1);
        Check.due("fault", Check.read(x, "b21"), -1000101);
        Check.due("tape", x.count(7), 0);
        Check.due("number", x.fault(), 2);
        Check.due("LEFT", x.teller(0, 2), 5);
        Check.due("TURN", x.count(3), 1);
        Check.due("undo yet", x.undo(), 0);
        Check.due("LEFT undone", x.teller(0, 2), 9);
        Check.due("good", Check.read(x, "b0,1;y9,1;"), 1);
        Check.due("number stays", x.fault(), 2);
        Check.due("empty", x.bank(), -1000100);
        Check.due("number now", x.fault(), 1);
    }

    private static void readingStandsInPlace() {
        TellerDays x = Check.bankOf("b0,1;y9,1;y3,1;d4;d5;d6;p1;");
        x.serve(2);
        x.counter(1, 0);
        x.dismiss();
        Check.due("read", Check.read(x, "b1,2;k7,2;d3;"), 1);
        int[] counts = {0, 1, 1, 0, 0, 0, 0, 0};
        for (int what = 0; what < 8; what++) {
            Check.due("count " + what, x.count(what), counts[what]);
        }
        Check.due("undo", x.undo(), Check.STATE);
        Check.due("LEFT", x.teller(0, 2), 7);
        Check.due("open", x.teller(0, 3), 1);
        Check.due("served", x.teller(0, 4), 0);
        Check.due("no teller 1", x.teller(1, 0), Check.BAD);
        Check.due("paper 1 never was there", x.paper(1, 0), Check.BAD);
        Check.due("its infancy", x.infant(), Check.NONE);
    }
}
