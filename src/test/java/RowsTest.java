/** Promises 2 to 5, and 42 as far as ROWS go. */
public final class RowsTest {
    public static void main(String[] args) {
        rowIsMade();
        itemIsSet();
        itemsAreCopied();
        rowIsDropped();
        statusTellsTheLatestFinding();
        Check.end();
    }

    private static void rowIsMade() {
        TellerDays x = new TellerDays();
        Check.due("count(0), new", x.count(0), 0);
        Check.due("row(0,0,0)", x.row(0, 0, 0), 0);
        Check.due("row(7,2,40)", x.row(7, 2, 40), 40);
        Check.due("count(0), two", x.count(0), 2);
        for (int i = 0; i < 40; i++) {
            x.set(7, i, 5);
        }
        Check.due("row(7,2,40) again", x.row(7, 2, 40), 40);
        Check.due("row(6,2,40)", x.row(6, 2, 40), 40);
        for (int bad : new int[] {Integer.MIN_VALUE, -1, 8, Integer.MAX_VALUE}) {
            Check.due("row " + bad, x.row(bad, 0, 1), Check.BAD);
        }
        for (int bad : new int[] {Integer.MIN_VALUE, -1, 3, Integer.MAX_VALUE}) {
            Check.due("lane " + bad, x.row(0, bad, 1), Check.BAD);
            Check.due("lane ahead of SIZE", x.row(0, bad, -1), Check.BAD);
        }
        Check.due("n 41", x.row(0, 0, 41), Check.BAD);
        Check.due("n max", x.row(0, 0, Integer.MAX_VALUE), Check.BAD);
        Check.due("n -1", x.row(7, 0, -1), Check.SIZE);
        Check.due("n min", x.row(7, 0, Integer.MIN_VALUE), Check.SIZE);
        Check.due("status SIZE", x.status(), 4);
        Check.due("the row stays", x.set(7, 39, 1000), 1000);
        Check.due("a row of none has no place", x.set(0, 0, 1), Check.PLACE);
    }

    private static void itemIsSet() {
        TellerDays x = new TellerDays();
        x.row(0, 0, 3);
        x.row(1, 1, 3);
        x.row(2, 2, 3);
        Check.due("byte 127", x.set(0, 0, 127), 127);
        Check.due("byte 128", x.set(0, 0, 128), -128);
        Check.due("byte 256", x.set(0, 2, 256), 0);
        Check.due("byte -129", x.set(0, 1, -129), 127);
        Check.due("short 32768", x.set(1, 0, 32768), -32768);
        Check.due("short 65537", x.set(1, 2, 65537), 1);
        Check.due("int min", x.set(2, 0, Integer.MIN_VALUE), Integer.MIN_VALUE);
        Check.due("int max", x.set(2, 2, Integer.MAX_VALUE), Integer.MAX_VALUE);
        Check.due("place 3", x.set(0, 3, 1), Check.PLACE);
        Check.due("place -1", x.set(0, -1, 1), Check.PLACE);
        Check.due("place min", x.set(0, Integer.MIN_VALUE, 1), Check.PLACE);
        Check.due("place max", x.set(0, Integer.MAX_VALUE, 1), Check.PLACE);
        Check.due("status PLACE", x.status(), 2);
        Check.due("NULL ahead of PLACE", x.set(3, -1, 1), Check.NULL);
        Check.due("status NULL", x.status(), 1);
        Check.due("BAD row", x.set(8, 0, 1), Check.BAD);
        Check.due("BAD row below", x.set(-1, 0, 1), Check.BAD);
    }

    /** What a row holds is seen by what a teller with so much LEFT answers to stayed(). */
    private static boolean holds(TellerDays x, int row, int i, int left) {
        Check.read(x, "b0,1;y" + left + ",1;");
        return x.stayed(0, row, i, 1) == 128;
    }

    private static void itemsAreCopied() {
        TellerDays x = new TellerDays();
        Check.fill(x, 0, 0, 1, 2, 3, 4, 5);
        Check.due("overlapping, upwards", x.copy(0, 0, 0, 1, 4), 4);
        int[] up = {1, 1, 2, 3, 4};
        for (int i = 0; i < up.length; i++) {
            Check.that("upwards " + i, holds(x, 0, i, up[i]));
        }
        Check.fill(x, 0, 0, 1, 2, 3, 4, 5);
        Check.due("overlapping, downwards", x.copy(0, 2, 0, 0, 3), 3);
        int[] down = {3, 4, 5, 4, 5};
        for (int i = 0; i < down.length; i++) {
            Check.that("downwards " + i, holds(x, 0, i, down[i]));
        }
        x.row(1, 0, 2);
        Check.due("to another", x.copy(0, 1, 1, 0, 2), 2);
        Check.that("to another 0", holds(x, 1, 0, 4) && holds(x, 1, 1, 5));
        Check.due("none at the ends", x.copy(0, 5, 1, 2, 0), 0);
        Check.due("beyond a", x.copy(0, 4, 1, 0, 2), Check.PLACE);
        Check.due("beyond b", x.copy(0, 0, 1, 1, 2), Check.PLACE);
        Check.due("i below", x.copy(0, -1, 1, 0, 1), Check.PLACE);
        Check.due("j below", x.copy(0, 0, 1, -1, 1), Check.PLACE);
        Check.due("n below", x.copy(0, 0, 1, 0, -1), Check.PLACE);
        Check.due("n min", x.copy(0, 0, 1, 0, Integer.MIN_VALUE), Check.PLACE);
        Check.due("i and n great", x.copy(0, Integer.MAX_VALUE, 1, 0, Integer.MAX_VALUE), Check.PLACE);
        Check.due("j great", x.copy(0, 0, 1, Integer.MAX_VALUE, 1), Check.PLACE);
        Check.that("nothing was changed", holds(x, 1, 0, 4) && holds(x, 1, 1, 5));
        x.row(2, 1, 2);
        Check.due("two lanes", x.copy(0, 0, 2, 0, 1), Check.STORE);
        Check.due("status STORE", x.status(), 5);
        Check.due("STORE ahead of PLACE", x.copy(0, -1, 2, 0, 1), Check.STORE);
        Check.due("STORE of none", x.copy(2, 0, 0, 0, 0), Check.STORE);
        Check.due("NULL a", x.copy(3, 0, 0, 0, 1), Check.NULL);
        Check.due("NULL b", x.copy(0, 0, 3, 0, -1), Check.NULL);
        Check.due("BAD a", x.copy(8, 0, 0, 0, 1), Check.BAD);
        Check.due("BAD b", x.copy(3, 0, -1, 0, 1), Check.BAD);
    }

    private static void rowIsDropped() {
        TellerDays x = new TellerDays();
        x.row(4, 1, 7);
        Check.due("drop", x.drop(4), 7);
        Check.due("count(0)", x.count(0), 0);
        Check.due("drop again", x.drop(4), Check.NULL);
        Check.due("set", x.set(4, 0, 0), Check.NULL);
        x.row(4, 0, 0);
        Check.due("drop of none", x.drop(4), 0);
        Check.due("BAD", x.drop(8), Check.BAD);
        Check.due("BAD below", x.drop(-1), Check.BAD);
    }

    private static void statusTellsTheLatestFinding() {
        TellerDays x = new TellerDays();
        Check.due("new", x.status(), 0);
        x.drop(0);
        Check.due("NULL", x.status(), 1);
        x.row(8, 0, 0);
        x.set(-1, 0, 0);
        x.copy(0, 0, 9, 0, 0);
        x.drop(9);
        x.count(0);
        x.feed('b');
        x.bank();
        x.undo();
        x.sums(0, 0, 0, 1);
        x.as(0, 0);
        Check.due("others leave it", x.status(), 1);
        x.row(0, 0, 1);
        Check.due("a row without", x.status(), 0);
        x.set(0, 1, 1);
        Check.due("PLACE", x.status(), 2);
        x.set(0, 0, 1);
        Check.due("set without", x.status(), 0);
    }
}
