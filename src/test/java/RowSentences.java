/** What the document says of rows, sentence by sentence: promises 1 to 5. */
final class RowSentences {
    private RowSentences() {
    }

    static void all() {
        noHill();
        rowsAreMissing();
        lanesAndItems();
        rowIsMade();
        rowIsRefused();
        itemIsSet();
        setIsRefused();
        itemsAreCopied();
        copyIsRefused();
        rowIsDropped();
    }

    private static void noHill() {
        Check.says("Promise 1", "`HillHouses()`: No HILL.");
        HillHouses x = new HillHouses();
        Check.due("winter", x.winter(), Check.STATE);
        Check.due("house", x.house(0, 0), Check.BAD);
        Check.due("yard", x.yard(0, 0), Check.BAD);
        for (int what = 0; what <= 6; what++) {
            Check.due("count(" + what + ")", x.count(what), 0);
        }
    }

    private static void rowsAreMissing() {
        Check.says("Terms", "ROWS 0 .. 7 are missing (at first)");
        HillHouses x = new HillHouses();
        for (int row = 0; row <= 7; row++) {
            Check.due("set of row " + row, x.set(row, 0, 0), Check.NULL);
            Check.due("drop of row " + row, x.drop(row), Check.NULL);
        }
        for (int row : Check.NO_ROW) {
            Check.due("drop of row " + row, x.drop(row), Check.BAD);
        }
        for (int row = 0; row <= 7; row++) {
            Check.due("row " + row, x.row(row, row % 3, row), row);
            Check.due("rows", x.count(0), row + 1);
        }
    }

    private static void lanesAndItems() {
        Check.says("Terms", "or have a LANE (0 bytes, 1 shorts, 2 ints)");
        HillHouses x = State.reader();
        int[] kept = {64, 3392, 200000};
        for (int lane = 0; lane <= 2; lane++) {
            x.row(lane, lane, 1);
            Check.due("set to 200000 in lane " + lane, x.set(lane, 0, 200000), kept[lane]);
        }
        Check.says("Terms", "and 0 to 40 ITEMS");
        Check.due("row of none", x.row(3, 0, 0), 0);
        Check.due("set of its first", x.set(3, 0, 0), Check.PLACE);
        Check.due("row of 40", x.row(4, 0, 40), 40);
        Check.due("set of its last", x.set(4, 39, 1), 1);
        Check.due("set behind its last", x.set(4, 40, 1), Check.PLACE);
        Check.says("Terms", ", 0 at first.");
        for (int lane = 0; lane <= 2; lane++) {
            x.row(5, lane, 40);
            for (int i = 0; i < 40; i += 13) {
                Check.due("item " + i, State.item(x, 5, i), 0);
                x.set(5, i, 3);
            }
        }
    }

    private static void rowIsMade() {
        Check.says("Promise 2", "A ROW of a LANE (0 to 2) with n ITEMS");
        HillHouses x = State.reader();
        for (int lane = 0; lane <= 2; lane++) {
            for (int n : new int[] {0, 1, 39, 40}) {
                Check.due("row(7, " + lane + ", " + n + ")", x.row(7, lane, n), n);
                Check.due("set of its last", x.set(7, n - 1, 5), n == 0 ? Check.PLACE : 5);
                Check.due("set behind its last", x.set(7, n, 5), Check.PLACE);
            }
        }
        Check.says("Promise 2", ", in place of what is there: n.");
        Check.rowOf(x, 0, 1, 2, 3, 4, 5);
        Check.rowOf(x, 1, 1, 2);
        Check.due("row(0, 0, 2)", x.row(0, 0, 2), 2);
        State.items("a shorter row", x, 0, 0, 0);
        Check.due("set to 200 of a byte", x.set(0, 0, 200), -56);
        Check.due("row(0, 1, 4)", x.row(0, 1, 4), 4);
        State.items("a longer row", x, 0, 0, 0, 0, 0);
        State.items("the row behind it", x, 1, 1, 2);
        Check.due("rows", x.count(0), 3);
    }

    private static void rowIsRefused() {
        Check.says("Promise 2", "BAD: ROW");
        HillHouses x = State.reader();
        Check.rowOf(x, 0, 1, 2, 3);
        Check.badOutside("row", 7, row -> x.row(row, 0, 1));
        Check.says("Promise 2", ", LANE");
        Check.badOutside("row, lane", 2, lane -> x.row(0, lane, 1));
        Check.says("Promise 2", ", n above 40");
        Check.badAbove("row, n", 40, n -> x.row(0, 0, n));
        Check.due("rows", x.count(0), 1);
        State.items("a row refused", x, 0, 1, 2, 3);
        Check.says("Promise 2", "; SIZE.");
        for (int n : new int[] {-1, -41, Check.LEAST}) {
            Check.due("row of " + n, x.row(0, 0, n), Check.SIZE);
            Check.due("status", x.status(), 4);
            Check.due("row 5 of " + n, x.row(5, 2, n), Check.SIZE);
        }
        Check.due("rows", x.count(0), 1);
        State.items("a row found", x, 0, 1, 2, 3);
    }

    private static void itemIsSet() {
        Check.says("Promise 3", "ITEM i becomes v, its lowest bits, as many as the LANE has (read with their sign)");
        HillHouses x = State.reader();
        int[] put = {0, 1, -1, 127, 128, 129, 255, 256, 257, -127, -128, -129, 32767, 32768, 65535, 65536, -32768,
            -32769, 0x7FFFFFFF, 0x80000000, 0x12345678, 0x1234C0B0};
        int[] bytes = {0, 1, -1, 127, -128, -127, -1, 0, 1, -127, -128, 127, -1, 0, -1, 0, 0, -1, -1, 0, 0x78, -80};
        int[] shorts = {0, 1, -1, 127, 128, 129, 255, 256, 257, -127, -128, -129, 32767, -32768, -1, 0, -32768, 32767,
            -1, 0, 0x5678, -16208};
        for (int lane = 0; lane <= 2; lane++) {
            x.row(lane, lane, 2);
        }
        for (int k = 0; k < put.length; k++) {
            Check.due("set of a byte to " + put[k], x.set(0, 1, put[k]), bytes[k]);
            Check.due("set of a short to " + put[k], x.set(1, 1, put[k]), shorts[k]);
            Check.due("set of an int to " + put[k], x.set(2, 1, put[k]), put[k]);
        }
        Check.says("Promise 3", ": what it is then.");
        x.set(0, 0, 256 + 3);
        x.set(0, 1, 5);
        State.items("bytes", x, 0, 3, 5);
        x.set(1, 0, 65536 * 7 + 4);
        x.set(1, 1, 128);
        State.items("shorts", x, 1, 4, Check.BAD);
        x.set(2, 0, 2);
        x.set(2, 1, 256 + 3);
        State.items("ints", x, 2, 2, Check.BAD);
    }

    private static void setIsRefused() {
        Check.says("Promise 3", "BAD: ROW");
        HillHouses x = State.reader();
        Check.rowOf(x, 0, 1, 2, 3);
        Check.rowOf(x, 1, 4);
        Check.badOutside("set", 7, row -> x.set(row, 0, 0));
        Check.says("Promise 3", "; NULL");
        Check.due("set of row 2", x.set(2, 0, 5), Check.NULL);
        Check.due("set of row 7, no such place", x.set(7, -1, 5), Check.NULL);
        Check.says("Promise 3", "; PLACE.");
        for (int i : new int[] {-1, 3, 39, 40, Check.LEAST, Check.MOST}) {
            Check.due("set of item " + i, x.set(0, i, 5), Check.PLACE);
            Check.due("status", x.status(), 2);
        }
        State.items("set, refused", x, 0, 1, 2, 3);
        State.items("set, refused", x, 1, 4);
    }

    private static void itemsAreCopied() {
        Check.says("Promise 4", "n ITEMS of a from i on come to b from j on");
        HillHouses x = State.reader();
        Check.rowOf(x, 0, 1, 2, 3, 4);
        Check.rowOf(x, 1, 5, 5, 5, 5, 5);
        Check.due("copy(0, 1, 1, 2, 2)", x.copy(0, 1, 1, 2, 2), 2);
        State.items("copied to", x, 1, 5, 5, 2, 3, 5);
        State.items("copied from", x, 0, 1, 2, 3, 4);
        Check.due("copy up to both ends", x.copy(0, 2, 1, 3, 2), 2);
        State.items("copied to the end", x, 1, 5, 5, 2, 3, 4);
        Check.says("Promise 4", ", as they were ahead");
        Check.due("copy over itself, behind", x.copy(0, 0, 0, 1, 3), 3);
        State.items("behind", x, 0, 1, 1, 2, 3);
        Check.rowOf(x, 0, 1, 2, 3, 4);
        Check.due("copy over itself, ahead", x.copy(0, 1, 0, 0, 3), 3);
        State.items("ahead", x, 0, 2, 3, 4, 4);
        Check.due("copy onto itself", x.copy(0, 0, 0, 0, 4), 4);
        State.items("onto", x, 0, 2, 3, 4, 4);
        Check.says("Promise 4", ": n. BAD");
        Check.due("copy of none", x.copy(0, 0, 1, 0, 0), 0);
        Check.due("copy of none at both ends", x.copy(0, 4, 1, 5, 0), 0);
        State.items("none copied", x, 1, 5, 5, 2, 3, 4);
        x.row(2, 1, 40);
        x.row(3, 1, 40);
        Check.due("copy of 40", x.copy(2, 0, 3, 0, 40), 40);
    }

    private static void copyIsRefused() {
        Check.says("Promise 4", "BAD: ROWS");
        HillHouses x = State.reader();
        Check.rowOf(x, 0, 1, 2, 3);
        Check.rowOf(x, 1, 4, 5);
        x.row(2, 0, 3);
        Check.badOutside("copy of", 7, row -> x.copy(row, 0, 0, 0, 1));
        Check.badOutside("copy to", 7, row -> x.copy(0, 0, row, 0, 1));
        Check.badOutside("copy of a missing one to", 7, row -> x.copy(7, 0, row, 0, 1));
        Check.says("Promise 4", "; NULL");
        Check.due("copy of a missing row", x.copy(7, 0, 0, 0, 1), Check.NULL);
        Check.due("copy to a missing row", x.copy(0, 0, 7, 0, 1), Check.NULL);
        Check.due("copy of a missing row, no place", x.copy(7, 0, 0, 9, 1), Check.NULL);
        Check.says("Promise 4", "; STORE");
        Check.due("copy of ints to bytes", x.copy(0, 0, 2, 0, 1), Check.STORE);
        Check.due("copy of bytes to ints", x.copy(2, 0, 0, 0, 1), Check.STORE);
        Check.due("copy of none to bytes", x.copy(0, 0, 2, 0, 0), Check.STORE);
        Check.due("copy to bytes, no place", x.copy(0, 0, 2, 9, 1), Check.STORE);
        x.row(2, 1, 3);
        Check.due("copy of ints to shorts", x.copy(0, 0, 2, 0, 1), Check.STORE);
        Check.says("Promise 4", "; PLACE (i, j, n below 0");
        int[][] below = {{-1, 0, 1}, {0, -1, 1}, {0, 0, -1}, {3, 2, -1}, {-1, 0, 0}, {0, -1, 0}, {Check.LEAST, 0, 1},
            {0, Check.LEAST, 1}, {0, 0, Check.LEAST}, {Check.LEAST, Check.LEAST, Check.LEAST}};
        places(x, below);
        Check.says("Promise 4", ", or beyond an end)");
        int[][] beyond = {{3, 0, 1}, {0, 2, 1}, {2, 0, 2}, {0, 1, 2}, {0, 0, 3}, {0, 0, 4}, {4, 0, 0}, {0, 3, 0},
            {Check.MOST, 0, 1}, {0, Check.MOST, 1}, {0, 0, Check.MOST}, {1, 0, Check.MOST}, {Check.MOST, 0, Check.MOST}};
        places(x, beyond);
    }

    private static void places(HillHouses x, int[][] places) {
        for (int[] p : places) {
            String call = "copy(0, " + p[0] + ", 1, " + p[1] + ", " + p[2] + ")";
            Check.due(call, x.copy(0, p[0], 1, p[1], p[2]), Check.PLACE);
            Check.due(call + ", status", x.status(), 2);
        }
        State.items("none copied", x, 0, 1, 2, 3);
        State.items("none copied", x, 1, 4, 5);
    }

    private static void rowIsDropped() {
        Check.says("Promise 5", "A ROW is missing from now on: how many ITEMS it had.");
        HillHouses x = State.reader();
        int[] many = {0, 1, 17, 40};
        for (int row = 0; row < 4; row++) {
            x.row(row, row % 3, many[row]);
        }
        Check.rowOf(x, 4, 2, 3);
        for (int row = 0; row < 4; row++) {
            Check.due("drop(" + row + ")", x.drop(row), many[row]);
            Check.due("set behind it", x.set(row, 0, 1), Check.NULL);
            Check.due("rows", x.count(0), 4 - row);
        }
        State.items("another row", x, 4, 2, 3);
        Check.says("Promise 5", "BAD; NULL.");
        Check.badOutside("drop", 7, x::drop);
        Check.due("drop(3) again", x.drop(3), Check.NULL);
        Check.due("drop(7)", x.drop(7), Check.NULL);
        Check.due("rows", x.count(0), 1);
    }
}
