/** Promises 1 to 5, and what of 29 and 30 is of rows. */
public final class RowsTest {
    public static void main(String[] args) {
        newObject();
        rowIsMade();
        rowIsRefused();
        itemsAreCut();
        setIsRefused();
        itemsAreCopied();
        copyIsRefused();
        rowIsDropped();
        Check.end("RowsTest");
    }

    private static void newObject() {
        HillHouses x = new HillHouses();
        for (int what = 0; what <= 6; what++) {
            Check.due("count of a new object", x.count(what), 0);
        }
        Check.due("winter of a new object", x.winter(), Check.STATE);
        Check.due("fault of a new object", x.fault(), 0);
        Check.due("status of a new object", x.status(), 0);
        Check.due("trace of a new object", x.trace(0), Check.NONE);
        for (int row = 0; row <= 7; row++) {
            Check.due("drop of a new object", x.drop(row), Check.NULL);
        }
    }

    private static void rowIsMade() {
        HillHouses x = new HillHouses();
        Check.due("row(0, 0, 0)", x.row(0, 0, 0), 0);
        Check.due("row(7, 2, 40)", x.row(7, 2, 40), 40);
        Check.due("count(0)", x.count(0), 2);
        Check.due("set(7, 39, 5)", x.set(7, 39, 5), 5);
        Check.due("row(7, 2, 40) anew", x.row(7, 2, 40), 40);
        Check.due("count(0)", x.count(0), 2);
        Check.rowOf(x, 1, 9);
        Check.due("copy of an item that was 5", x.copy(7, 39, 1, 0, 1), 1);
        // A hill with one house in yard 0: stolen() tells whether item 0 is 0 again.
        Check.due("hill", Check.read(x, "slope 1 4;house hut 0 0 1;"), 1);
        Check.due("chock", x.chock(0, 1), 0);
        Check.due("stolen(1)", x.stolen(1), 0);
    }

    private static void rowIsRefused() {
        HillHouses x = new HillHouses();
        for (int row : Check.NO_ROW) {
            Check.due("row of no row", x.row(row, 0, 1), Check.BAD);
            Check.due("row of no row, below none", x.row(row, 0, -1), Check.BAD);
        }
        Check.due("row(0, -1, 1)", x.row(0, -1, 1), Check.BAD);
        Check.due("row(0, 3, 1)", x.row(0, 3, 1), Check.BAD);
        Check.due("row(0, 3, -1)", x.row(0, 3, -1), Check.BAD);
        Check.due("row(0, 0, 41)", x.row(0, 0, 41), Check.BAD);
        Check.due("status stays", x.status(), 0);
        Check.due("row(0, 0, -1)", x.row(0, 0, -1), Check.SIZE);
        Check.due("status", x.status(), 4);
        Check.due("row(0, 0, least)", x.row(0, 0, Integer.MIN_VALUE), Check.SIZE);
        Check.due("count(0)", x.count(0), 0);
        Check.due("row(0, 1, 3)", x.row(0, 1, 3), 3);
        Check.due("status", x.status(), 0);
        Check.due("row(0, 1, -1)", x.row(0, 1, -1), Check.SIZE);
        Check.due("the row stays", x.drop(0), 3);
    }

    private static void itemsAreCut() {
        HillHouses x = new HillHouses();
        x.row(0, 0, 1);
        x.row(1, 1, 1);
        x.row(2, 2, 1);
        int[] put = {0, 127, 128, 255, 256, -1, -129, 32767, 32768, 65535, 65536, Integer.MAX_VALUE, Integer.MIN_VALUE};
        int[] bytes = {0, 127, -128, -1, 0, -1, 127, -1, 0, -1, 0, -1, 0};
        int[] shorts = {0, 127, 128, 255, 256, -1, -129, 32767, -32768, -1, 0, -1, 0};
        for (int k = 0; k < put.length; k++) {
            Check.due("set of bytes to " + put[k], x.set(0, 0, put[k]), bytes[k]);
            Check.due("set of shorts to " + put[k], x.set(1, 0, put[k]), shorts[k]);
            Check.due("set of ints to " + put[k], x.set(2, 0, put[k]), put[k]);
        }
    }

    private static void setIsRefused() {
        HillHouses x = new HillHouses();
        for (int row : Check.NO_ROW) {
            Check.due("set of no row", x.set(row, 0, 0), Check.BAD);
        }
        Check.due("status stays", x.status(), 0);
        Check.due("set of a missing row", x.set(3, -1, 0), Check.NULL);
        Check.due("status", x.status(), 1);
        Check.due("set of no row", x.set(8, 0, 0), Check.BAD);
        Check.due("status stays", x.status(), 1);
        x.row(3, 2, 2);
        for (int i : new int[] {-1, 2, Integer.MIN_VALUE, Integer.MAX_VALUE}) {
            Check.due("set of place " + i, x.set(3, i, 0), Check.PLACE);
            Check.due("status", x.status(), 2);
        }
        Check.due("set(3, 1, -1000001)", x.set(3, 1, Check.BAD), Check.BAD);
        Check.due("an answer that only looks like BAD is none", x.status(), 0);
        x.row(4, 0, 0);
        Check.due("set of an empty row", x.set(4, 0, 0), Check.PLACE);
    }

    /** Tells a row's items by copying them into a hill's question, where only yards are at home. */
    private static void itemsAreCopied() {
        HillHouses x = Check.hillOf("slope 3 20;stone 0 6;stone 1 8;stone 2 10;house hut 0 5 1;house hut 1 7 1;house hut 2 9 1;");
        Check.rowOf(x, 0, 5, 7, 9);
        Check.due("stolen", x.stolen(0), 0);
        Check.rowOf(x, 1, 1, 5, 7, 9, 3);
        Check.due("copy(1, 1, 0, 0, 3)", x.copy(1, 1, 0, 0, 3), 3);
        Check.due("stolen after copy", x.stolen(0), 0);
        // 5 7 9 over itself, one place down and one place up: as they were ahead.
        Check.rowOf(x, 2, 0, 5, 7, 9);
        Check.due("copy down", x.copy(2, 1, 2, 0, 3), 3);
        Check.due("stolen", x.stolen(2), 0);
        Check.rowOf(x, 3, 5, 7, 9, 0);
        Check.due("copy up", x.copy(3, 0, 3, 1, 3), 3);
        Check.due("back", x.copy(3, 1, 3, 0, 3), 3);
        Check.due("stolen", x.stolen(3), 0);
        Check.due("copy of none at both ends", x.copy(3, 4, 0, 3, 0), 0);
        Check.due("status", x.status(), 0);
        Check.due("stolen", x.stolen(0), 0);
    }

    private static void copyIsRefused() {
        HillHouses x = new HillHouses();
        x.row(0, 0, 3);
        x.row(1, 1, 3);
        x.row(2, 0, 2);
        for (int row : Check.NO_ROW) {
            Check.due("copy of no row", x.copy(row, 0, 0, 0, 1), Check.BAD);
            Check.due("copy to no row", x.copy(0, 0, row, 0, 1), Check.BAD);
        }
        Check.due("copy of a missing row", x.copy(3, -1, 0, 0, 1), Check.NULL);
        Check.due("copy to a missing row", x.copy(0, 0, 3, 0, -1), Check.NULL);
        Check.due("status", x.status(), 1);
        Check.due("copy of two lanes", x.copy(0, 0, 1, 0, 1), Check.STORE);
        Check.due("copy of two lanes, no place", x.copy(0, -1, 1, 9, -1), Check.STORE);
        Check.due("status", x.status(), 5);
        int[][] places = {{-1, 0, 1}, {0, -1, 1}, {0, 0, -1}, {1, 0, 3}, {0, 1, 2}, {0, 0, 3}, {4, 0, 0}, {0, 3, 0},
            {Integer.MAX_VALUE, 0, Integer.MAX_VALUE}, {0, Integer.MAX_VALUE, 1}, {0, 0, Integer.MIN_VALUE},
            {1, 1, Integer.MAX_VALUE}, {Integer.MIN_VALUE, 0, Integer.MIN_VALUE}};
        for (int[] p : places) {
            Check.due("copy of places " + p[0] + ' ' + p[1] + ' ' + p[2], x.copy(0, p[0], 2, p[1], p[2]), Check.PLACE);
            Check.due("status", x.status(), 2);
        }
        Check.due("copy to the end", x.copy(0, 1, 2, 0, 2), 2);
        Check.due("status", x.status(), 0);
    }

    private static void rowIsDropped() {
        HillHouses x = new HillHouses();
        x.row(5, 1, 17);
        Check.due("drop(5)", x.drop(5), 17);
        Check.due("status", x.status(), 0);
        Check.due("drop(5) again", x.drop(5), Check.NULL);
        Check.due("status", x.status(), 1);
        x.row(6, 0, 2);
        x.set(6, 2, 0);
        Check.due("drop(6)", x.drop(6), 2);
        Check.due("status of a drop", x.status(), 0);
        Check.due("count(0)", x.count(0), 0);
        for (int row : Check.NO_ROW) {
            Check.due("drop of no row", x.drop(row), Check.BAD);
        }
        x.row(5, 1, 0);
        Check.due("drop of an empty row", x.drop(5), 0);
    }
}
