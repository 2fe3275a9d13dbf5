/** Promises 35 to 42: images, KINDS and ASKS. */
public final class AsksTest {
    public static void main(String[] args) {
        images();
        kinds();
        takenAs();
        asks();
        traces();
        Check.end();
    }

    private static void images() {
        TellerDays x = new TellerDays();
        Check.due("no BANK", x.image(0), Check.STATE);
        Check.due("none kept", x.restore(1), Check.STATE);
        Check.read(x, "b1,2;n30,1;y20,2;d9;p3;d1;");
        x.serve(1);
        x.counter(1, 0);
        Check.due("keep 1", x.image(1), 1);
        Check.due("ACTS stay", x.count(6), 2);
        Check.due("0 was not kept", x.restore(0), Check.STATE);
        x.serve(2);
        x.come(0, 30);
        Check.due("restore", x.restore(1), 1);
        Check.due("no ACT can be undone", x.undo(), Check.STATE);
        Check.due("LEFT", x.teller(0, 2), 21);
        Check.due("served", x.teller(0, 4), 1);
        Check.due("open", x.teller(1, 3), 0);
        Check.due("TURN", x.count(3), 1);
        Check.due("queue", x.queue(0), 1);
        Check.due("paper 0", x.paper(0, 0), 9);
        x.dismiss();
        Check.due("again", x.restore(1), 1);
        Check.due("unpaid", x.count(5), 0);
        Check.read(x, "b0,1;k7,3;");
        Check.due("keep 0", x.image(0), 1);
        Check.due("another BANK's image", x.restore(1), 1);
        Check.due("its TELLERS", x.count(1), 2);
        Check.due("its KIND", x.kind(0), 5);
        Check.due("its WEEK", x.ahead(0, 1), 25);
        Check.due("the other", x.restore(0), 1);
        Check.due("its TELLERS", x.count(1), 1);
        for (int bad : new int[] {Integer.MIN_VALUE, -1, 2, Integer.MAX_VALUE}) {
            Check.due("image " + bad, x.image(bad), Check.BAD);
            Check.due("restore " + bad, x.restore(bad), Check.BAD);
        }
    }

    private static final String FOUR = "b0,20;c10,1;k20,2;o30,3;y40,4;";

    private static void kinds() {
        TellerDays x = Check.bankOf(FOUR);
        for (int t = 0; t < 4; t++) {
            Check.due("kind " + t, x.kind(t), t + 1);
        }
        Check.due("kind 4", x.kind(4), Check.BAD);
        Check.due("kind -1", x.kind(-1), Check.BAD);
        Check.due("brown", Check.bankOf("b0,20;n1,1;").kind(0), 5);
    }

    private static void takenAs() {
        int[] is = {0, 1 | 2, 1 | 2 | 4, 1 | 2 | 8, 1 | 16, 1 | 16 | 32};
        String letters = " ckoyn";
        for (int kind = 1; kind < 6; kind++) {
            TellerDays x = Check.bankOf("b0,20;y1,1;" + letters.charAt(kind) + "9,9;");
            for (int as = 0; as < 6; as++) {
                boolean fits = (is[kind] >> as & 1) == 1;
                Check.due("kind " + kind + " as " + as, x.as(1, as), fits ? 1 : Check.KIND);
                Check.due("status", x.status(), fits ? 0 : 3);
            }
        }
        TellerDays x = Check.bankOf(FOUR);
        x.as(0, 2);
        Check.due("kind 6", x.as(0, 6), Check.BAD);
        Check.due("kind -1", x.as(0, -1), Check.BAD);
        Check.due("teller 4", x.as(4, 0), Check.BAD);
        Check.due("teller -1", x.as(-1, 0), Check.BAD);
        Check.due("status stays", x.status(), 3);
    }

    private static void asked(TellerDays x, int one, int what, int answer, int... trace) {
        Check.due("ask(" + one + "," + what + ")", x.ask(one, what), answer);
        for (int i = 0; i < trace.length; i++) {
            Check.due("trace " + i + " of ask(" + one + "," + what + ")", x.trace(i), trace[i]);
        }
        Check.due("trace ends", x.trace(trace.length), Check.NONE);
    }

    private static void asks() {
        TellerDays x = Check.bankOf(FOUR);
        asked(x, 0, 0, 1 + 0 + 10, 11, 10, 21, 20);
        asked(x, 0, 1, 0 + 10, 21, 20);
        asked(x, 1, 0, -(2 + 2 * (1 + 20)), 12, 11, 10, 24, 21, 20);
        asked(x, 1, 1, 2 * (1 + 20), 24, 21, 20);
        asked(x, 2, 0, 3 + (2 + 30 - 1000), 11, 10, 22, 21, 20);
        asked(x, 2, 1, 2 + 30 - 1000, 22, 21, 20);
        asked(x, 3, 0, 4 - 100, 13, 10);
        asked(x, 3, 1, 3 - (4 - 100), 23, 20, 13, 10);
        TellerDays n = Check.bankOf("b0,20;y1,1;n50,7;");
        asked(n, 1, 0, 2 * (7 - 100), 14, 13, 10);
        asked(n, 1, 1, 1 - 2 * (7 - 100), 23, 20, 14, 13, 10);
        TellerDays left = Check.bankOf("b0,20;c10,2;d5;");
        left.serve(1);
        asked(left, 0, 1, 7, 21, 20);
    }

    private static void traces() {
        TellerDays x = new TellerDays();
        Check.due("new", x.trace(0), Check.NONE);
        Check.read(x, FOUR);
        x.ask(3, 0);
        Check.due("what 2", x.ask(0, 2), Check.BAD);
        Check.due("what -1", x.ask(0, -1), Check.BAD);
        Check.due("teller 4", x.ask(4, 0), Check.BAD);
        Check.due("teller -1", x.ask(-1, 0), Check.BAD);
        Check.due("what is refused leaves it", x.trace(0), 13);
        Check.due("-1", x.trace(-1), Check.NONE);
        Check.due("min", x.trace(Integer.MIN_VALUE), Check.NONE);
        Check.due("max", x.trace(Integer.MAX_VALUE), Check.NONE);
        Check.due("16", x.trace(16), Check.NONE);
    }
}
