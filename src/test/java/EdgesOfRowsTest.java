/** Promises 1 to 5, sentence by sentence. */
public final class EdgesOfRowsTest {
    public static void main(String[] args) {
        Edge.of(1, "No BANK.", EdgesOfRowsTest::noBank);

        Edge.of(2, "A ROW of a LANE with n ITEMS", EdgesOfRowsTest::rowOfEachLane);
        Edge.of(2, "in place of what is there", EdgesOfRowsTest::rowInPlace);
        Edge.of(2, ": n.", EdgesOfRowsTest::rowAnswersN);
        Edge.of(2, "BAD: ROW", EdgesOfRowsTest::rowOfNoRow);
        Edge.of(2, "ROW, LANE", EdgesOfRowsTest::rowOfNoLane);
        Edge.of(2, "n above 40", EdgesOfRowsTest::rowAbove40);
        Edge.of(2, "SIZE.", EdgesOfRowsTest::rowOfFewerThanNone);

        Edge.of(3, "ITEM i becomes v", EdgesOfRowsTest::eachItemIsSet);
        Edge.of(3, "its lowest bits, as many as the LANE has: what it is then.", EdgesOfRowsTest::lowestBits);
        Edge.of(3, "BAD: ROW;", EdgesOfRowsTest::setOfNoRow);
        Edge.of(3, "NULL;", EdgesOfRowsTest::setOfMissing);
        Edge.of(3, "PLACE.", EdgesOfRowsTest::setBeyond);

        Edge.of(4, "n ITEMS of a from i on come to b from j on", EdgesOfRowsTest::itemsCome);
        Edge.of(4, "as they were ahead", EdgesOfRowsTest::asTheyWereAhead);
        Edge.of(4, ": n.", EdgesOfRowsTest::copyAnswersN);
        Edge.of(4, "BAD: ROWS;", EdgesOfRowsTest::copyOfNoRows);
        Edge.of(4, "NULL;", EdgesOfRowsTest::copyOfMissing);
        Edge.of(4, "STORE;", EdgesOfRowsTest::copyOfTwoLanes);
        Edge.of(4, "PLACE (i, j, n below 0", EdgesOfRowsTest::copyBelow);
        Edge.of(4, "or beyond an end).", EdgesOfRowsTest::copyBeyond);

        Edge.of(5, "A ROW is missing from now on", EdgesOfRowsTest::missingFromNowOn);
        Edge.of(5, "how many ITEMS it had.", EdgesOfRowsTest::howManyItHad);
        Edge.of(5, "BAD;", EdgesOfRowsTest::dropOfNoRow);
        Edge.of(5, "NULL.", EdgesOfRowsTest::dropOfMissing);
        Edge.end(1, 5);
    }

    private static final int[] NO_ROWS = {Integer.MIN_VALUE, -1, 8, Integer.MAX_VALUE};

    /** What an ITEM is, is seen by a TELLER who has so much LEFT. */
    private static void item(TellerDays x, int row, int i, int want) {
        Check.read(x, "b0,20;y" + want + ",1;");
        Check.due("ITEM " + i + " of ROW " + row + " is " + want, x.stayed(0, row, i, 1), 128);
    }

    private static void items(TellerDays x, int row, int... want) {
        for (int i = 0; i < want.length; i++) {
            item(x, row, i, want[i]);
        }
        Check.due("ITEMS end", x.stayed(0, row, want.length, 1), Check.PLACE);
    }

    private static void noBank() {
        TellerDays x = new TellerDays();
        Check.due("TELLERS", x.count(1), 0);
        Check.due("holds()", x.holds(), Check.STATE);
        Check.due("kind(0)", x.kind(0), Check.BAD);
        Check.due("image(0)", x.image(0), Check.STATE);
    }

    private static void rowOfEachLane() {
        TellerDays x = new TellerDays();
        for (int lane = 0; lane < 3; lane++) {
            x.row(lane, lane, 2);
            Check.due("bits of LANE " + lane, x.set(lane, 1, 0x12345678), new int[] {0x78, 0x5678, 0x12345678}[lane]);
            Check.due("beyond n", x.set(lane, 2, 0), Check.PLACE);
        }
        Check.due("ROWS", x.count(0), 3);
    }

    private static void rowInPlace() {
        TellerDays x = new TellerDays();
        Check.fill(x, 0, 2, 7, 8, 9);
        x.row(0, 0, 2);
        Check.due("one ROW yet", x.count(0), 1);
        items(x, 0, 0, 0);
        Check.due("of the new LANE", x.set(0, 0, 256), 0);
        x.row(0, 2, 3);
        items(x, 0, 0, 0, 0);
    }

    private static void rowAnswersN() {
        for (int n : new int[] {0, 1, 39, 40}) {
            Check.due("row(7, 2, " + n + ")", new TellerDays().row(7, 2, n), n);
        }
    }

    private static void rowOfNoRow() {
        Check.due("row(7, 0, 1)", new TellerDays().row(7, 0, 1), 1);
        for (int row : NO_ROWS) {
            Twin.refused(Pasts::rich, "row(" + row + ", 0, 1)", x -> x.row(row, 0, 1), Check.BAD);
        }
    }

    private static void rowOfNoLane() {
        Check.due("row(0, 2, 1)", new TellerDays().row(0, 2, 1), 1);
        for (int lane : new int[] {Integer.MIN_VALUE, -1, 3, Integer.MAX_VALUE}) {
            Twin.refused(Pasts::rich, "row(0, " + lane + ", 1)", x -> x.row(0, lane, 1), Check.BAD);
        }
    }

    private static void rowAbove40() {
        Twin.refused(Pasts::rich, "row(0, 0, 41)", x -> x.row(0, 0, 41), Check.BAD);
        Twin.refused(Pasts::rich, "row(0, 0, max)", x -> x.row(0, 0, Integer.MAX_VALUE), Check.BAD);
    }

    private static void rowOfFewerThanNone() {
        Twin.refused(Pasts::rich, "row(0, 0, -1)", x -> x.row(0, 0, -1), Check.SIZE);
        Twin.refused(Pasts::rich, "row(0, 0, min)", x -> x.row(0, 0, Integer.MIN_VALUE), Check.SIZE);
        Twin.refused(Pasts::none, "row(5, 2, -1)", x -> x.row(5, 2, -1), Check.SIZE);
    }

    private static void eachItemIsSet() {
        TellerDays x = new TellerDays();
        x.row(7, 0, 40);
        x.row(6, 0, 40);
        Check.due("the first", x.set(7, 0, 5), 5);
        Check.due("the last", x.set(7, 39, 6), 6);
        item(x, 7, 0, 5);
        item(x, 7, 1, 0);
        item(x, 7, 38, 0);
        item(x, 7, 39, 6);
        item(x, 6, 39, 0);
    }

    private static void lowestBits() {
        int[] of = {127, 128, 255, 256, -128, -129, 32767, 32768, 65535, 65536, -32769, Integer.MIN_VALUE, Integer.MAX_VALUE};
        int[] bytes = {127, -128, -1, 0, -128, 127, -1, 0, -1, 0, -1, 0, -1};
        int[] shorts = {127, 128, 255, 256, -128, -129, 32767, -32768, -1, 0, 32767, 0, -1};
        TellerDays x = new TellerDays();
        for (int lane = 0; lane < 3; lane++) {
            x.row(lane, lane, 1);
            for (int k = 0; k < of.length; k++) {
                int want = lane == 0 ? bytes[k] : lane == 1 ? shorts[k] : of[k];
                Check.due("set(" + lane + ", 0, " + of[k] + ")", x.set(lane, 0, of[k]), want);
            }
        }
        x.set(0, 0, 256 + 9);
        item(x, 0, 0, 9);
    }

    private static void setOfNoRow() {
        for (int row : NO_ROWS) {
            Twin.refused(Pasts::rich, "set(" + row + ", 0, 1)", x -> x.set(row, 0, 1), Check.BAD);
        }
    }

    private static void setOfMissing() {
        Twin.refused(Pasts::rich, "set(7, 0, 1)", x -> x.set(7, 0, 1), Check.NULL);
        Twin.refused(Pasts::none, "set(0, 0, 1)", x -> x.set(0, 0, 1), Check.NULL);
    }

    private static void setBeyond() {
        for (int i : new int[] {Integer.MIN_VALUE, -1, 3, 39, 40, Integer.MAX_VALUE}) {
            Twin.refused(Pasts::rich, "set(0, " + i + ", 1)", x -> x.set(0, i, 1), Check.PLACE);
        }
        Twin.refused(Pasts::rich, "set(3, 0, 1), of none", x -> x.set(3, 0, 1), Check.PLACE);
    }

    private static void itemsCome() {
        TellerDays x = new TellerDays();
        Check.fill(x, 0, 1, 1, 2, 3, 4, 5);
        Check.fill(x, 1, 1, 6, 7, 8);
        x.copy(0, 3, 1, 1, 2);
        items(x, 1, 6, 4, 5);
        items(x, 0, 1, 2, 3, 4, 5);
        x.copy(0, 0, 1, 0, 3);
        items(x, 1, 1, 2, 3);
    }

    private static void asTheyWereAhead() {
        TellerDays up = new TellerDays();
        Check.fill(up, 0, 2, 1, 2, 3, 4, 5);
        up.copy(0, 0, 0, 1, 4);
        items(up, 0, 1, 1, 2, 3, 4);
        TellerDays down = new TellerDays();
        Check.fill(down, 0, 2, 1, 2, 3, 4, 5);
        down.copy(0, 1, 0, 0, 4);
        items(down, 0, 2, 3, 4, 5, 5);
    }

    private static void copyAnswersN() {
        TellerDays x = new TellerDays();
        x.row(0, 0, 40);
        x.row(1, 0, 40);
        Check.due("all", x.copy(0, 0, 1, 0, 40), 40);
        Check.due("one, the last", x.copy(0, 39, 1, 39, 1), 1);
        Check.due("none, at the ends", x.copy(0, 40, 1, 40, 0), 0);
        Check.due("none within", x.copy(0, 5, 0, 5, 0), 0);
        x.row(2, 0, 0);
        Check.due("none of none", x.copy(2, 0, 2, 0, 0), 0);
    }

    private static void copyOfNoRows() {
        for (int row : NO_ROWS) {
            Twin.refused(Pasts::rich, "copy(" + row + ", ..)", x -> x.copy(row, 0, 0, 0, 1), Check.BAD);
            Twin.refused(Pasts::rich, "copy(.., " + row + ", ..)", x -> x.copy(0, 0, row, 0, 1), Check.BAD);
        }
    }

    private static void copyOfMissing() {
        Twin.refused(Pasts::rich, "copy(7, 0, 0, 0, 1)", x -> x.copy(7, 0, 0, 0, 1), Check.NULL);
        Twin.refused(Pasts::rich, "copy(0, 0, 7, 0, 1)", x -> x.copy(0, 0, 7, 0, 1), Check.NULL);
        Twin.refused(Pasts::rich, "copy(7, 0, 7, 0, 0)", x -> x.copy(7, 0, 7, 0, 0), Check.NULL);
    }

    private static void copyOfTwoLanes() {
        Twin.refused(Pasts::rich, "copy(0, 0, 1, 0, 1)", x -> x.copy(0, 0, 1, 0, 1), Check.STORE);
        Twin.refused(Pasts::rich, "copy(2, 0, 1, 0, 1)", x -> x.copy(2, 0, 1, 0, 1), Check.STORE);
        Twin.refused(Pasts::rich, "copy(2, 0, 0, 0, 0), of none", x -> x.copy(2, 0, 0, 0, 0), Check.STORE);
    }

    private static void copyBelow() {
        for (int below : new int[] {Integer.MIN_VALUE, -1}) {
            Twin.refused(Pasts::rich, "i " + below, x -> x.copy(2, below, 2, 0, 1), Check.PLACE);
            Twin.refused(Pasts::rich, "j " + below, x -> x.copy(2, 0, 2, below, 1), Check.PLACE);
            Twin.refused(Pasts::rich, "n " + below, x -> x.copy(2, 2, 2, 2, below), Check.PLACE);
            Twin.refused(Pasts::rich, "i " + below + ", none", x -> x.copy(2, below, 2, 0, 0), Check.PLACE);
            Twin.refused(Pasts::rich, "j " + below + ", none", x -> x.copy(2, 0, 2, below, 0), Check.PLACE);
        }
    }

    private static void copyBeyond() {
        int most = Integer.MAX_VALUE;
        Twin.refused(Pasts::rich, "a's end", x -> x.copy(2, 3, 2, 0, 2), Check.PLACE);
        Twin.refused(Pasts::rich, "b's end", x -> x.copy(2, 0, 2, 3, 2), Check.PLACE);
        Twin.refused(Pasts::rich, "both ends", x -> x.copy(2, 0, 2, 0, 5), Check.PLACE);
        Twin.refused(Pasts::rich, "none behind a's end", x -> x.copy(2, 5, 2, 0, 0), Check.PLACE);
        Twin.refused(Pasts::rich, "none behind b's end", x -> x.copy(2, 0, 2, 5, 0), Check.PLACE);
        Twin.refused(Pasts::rich, "i and n as great as can be", x -> x.copy(2, most, 2, 0, most), Check.PLACE);
        Twin.refused(Pasts::rich, "j and n as great as can be", x -> x.copy(2, 0, 2, most, most), Check.PLACE);
        Twin.refused(Pasts::rich, "i as great as can be", x -> x.copy(2, most, 2, 0, 1), Check.PLACE);
        Twin.refused(Pasts::rich, "of none, one", x -> x.copy(3, 0, 0, 0, 1), Check.PLACE);
    }

    private static void missingFromNowOn() {
        TellerDays x = new TellerDays();
        Check.fill(x, 0, 0, 5, 6);
        Check.fill(x, 7, 0, 5, 6);
        x.drop(7);
        Check.due("set", x.set(7, 0, 1), Check.NULL);
        Check.due("copy", x.copy(7, 0, 0, 0, 0), Check.NULL);
        Check.due("ROWS", x.count(0), 1);
        items(x, 0, 5, 6);
        x.row(7, 0, 2);
        items(x, 7, 0, 0);
    }

    private static void howManyItHad() {
        TellerDays x = new TellerDays();
        for (int n : new int[] {0, 1, 40}) {
            x.row(7, 1, n);
            Check.due("drop(7)", x.drop(7), n);
        }
    }

    private static void dropOfNoRow() {
        for (int row : NO_ROWS) {
            Twin.refused(Pasts::rich, "drop(" + row + ")", x -> x.drop(row), Check.BAD);
        }
    }

    private static void dropOfMissing() {
        Twin.refused(Pasts::rich, "drop(7)", x -> x.drop(7), Check.NULL);
        TellerDays x = new TellerDays();
        x.row(3, 0, 0);
        x.drop(3);
        Check.due("twice", x.drop(3), Check.NULL);
    }
}
