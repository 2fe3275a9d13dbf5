/** Pasts of an object, at the edges of which calls are refused. */
final class Pasts {
    private Pasts() {
    }

    static void none(TellerDays x) {
    }

    /** Something of all there is: ROWS, a BANK with ACTS, an IMAGE, a FAULT, THE TRACE, a tape, a FINDING. */
    static void rich(TellerDays x) {
        Check.fill(x, 0, 0, 1, 2, 3);
        Check.fill(x, 1, 1, 4, 4);
        Check.fill(x, 2, 2, 1, 2, 3, 4);
        Check.fill(x, 3, 0);
        Check.read(x, "b21");
        Check.read(x, "b2,3;n20,2;k30,5;y9,1;d7;p4;d12;d30;");
        x.serve(1);
        x.counter(2, 0);
        x.image(0);
        x.swap();
        x.come(1, 5);
        x.ask(1, 0);
        feed(x, "b0,1;y1");
        x.set(0, 9, 0);
    }

    static void emptyQueue(TellerDays x) {
        rich(x);
        x.serve(4);
    }

    static void oneInQueue(TellerDays x) {
        rich(x);
        x.serve(3);
    }

    static void fullQueue(TellerDays x) {
        rich(x);
        x.come(0, 1);
        x.come(1, 2);
        x.come(0, 30);
    }

    static void turn999(TellerDays x) {
        rich(x);
        for (int k = 0; k < 41; k++) {
            x.serve(24);
        }
        x.serve(14);
    }

    static void fullTape(TellerDays x) {
        rich(x);
        while (x.count(7) < 120) {
            x.feed('1');
        }
    }

    private static void feed(TellerDays x, String text) {
        for (int i = 0; i < text.length(); i++) {
            x.feed(text.charAt(i));
        }
    }
}
