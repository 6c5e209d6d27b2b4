/** A hill in full use, and all that an object answers of itself, so that two that were used alike can be compared. */
final class State {
    private static final String SIX_HUTS = "slope 1 6;house hut 0 0 1;house hut 0 1 1;house hut 0 2 1;house hut 0 3 1;"
        + "house hut 0 4 1;house hut 0 5 1;";

    private State() {
    }

    /**
     * Six houses (mill 4 hauled to yard 0 of lane 0; a stone in yard 0 of lane 2; houses 2, 5 chocked), two winters
     * gone, five acts, image 0, rows 0 (six houses), 1 (no houses among them), 2 (a number that is no yard), an open
     * tape, a trace, a fault told, status 1. Row 7 is missing, image 1 was not kept.
     */
    static HillHouses rich() {
        HillHouses x = richButForTape();
        Check.feed(x, "slope 4 20;");
        return x;
    }

    static HillHouses richButForTape() {
        HillHouses x = Check.hillOf("slope 3 8;stone 1 7;stone 2 0;house inn 0 0 7;house church 1 2 5;"
            + "house hut 2 3 9;house barn 0 4 3;house mill 1 4 20;house hut 2 6 1;");
        Check.due("a fault", Check.read(x, "!"), -1000100);
        Check.due("ask", x.ask(4, 1), 2 * (4 + 4));
        x.winter();
        x.chock(2, 1);
        x.winter();
        Check.due("image", x.image(0), 1);
        Check.due("haul", x.haul(4, 0), 20);
        x.chock(5, 1);
        Check.rowOf(x, 0, 5, 4, 3, 2, 1, 0);
        Check.rowOf(x, 2, 7, 7, 7, 7, 7, 8);
        Check.due("row of bytes", x.row(1, 0, 3), 3);
        x.set(1, 0, 3);
        x.set(1, 1, 6);
        x.set(1, 2, -1);
        Check.due("drop", x.drop(7), Check.NULL);
        return x;
    }

    /** All that x answers of its state, as one text. Uses x up. */
    static String of(HillHouses x) {
        StringBuilder s = new StringBuilder();
        s.append("status ").append(x.status()).append(" fault ").append(x.fault()).append(" trace");
        for (int i = 0; i < 7; i++) {
            s.append(' ').append(x.trace(i));
        }
        s.append(" counts");
        for (int what = 0; what <= 6; what++) {
            s.append(' ').append(x.count(what));
        }
        houses(x, s);
        yards(x, s);
        for (int left = x.count(4); left > 0; left--) {
            s.append(" undo ").append(x.undo());
            moved(x, s);
        }
        s.append(" hill ").append(x.hill()).append(" fault ").append(x.fault());
        moved(x, s);
        for (int k = 0; k <= 1; k++) {
            s.append(" restore ").append(x.restore(k));
            moved(x, s);
        }
        rows(x, s);
        return s.toString();
    }

    private static void houses(HillHouses x, StringBuilder s) {
        for (int h = 0; h < x.count(1); h++) {
            s.append(" house ").append(x.kind(h));
            for (int what = 0; what <= 5; what++) {
                s.append(' ').append(x.house(h, what));
            }
        }
    }

    private static void yards(HillHouses x, StringBuilder s) {
        for (int lane = 0; x.yard(lane, 0) != Check.BAD; lane++) {
            s.append(" lane");
            for (int yard = 0; x.yard(lane, yard) != Check.BAD; yard++) {
                s.append(' ').append(x.yard(lane, yard));
            }
        }
    }

    private static void moved(HillHouses x, StringBuilder s) {
        s.append(" winter ").append(x.count(3));
        for (int h = 0; h < x.count(1); h++) {
            s.append(' ').append(x.house(h, 1)).append(x.house(h, 3) == 1 ? "!" : "");
        }
    }

    private static void rows(HillHouses x, StringBuilder s) {
        Check.read(x, SIX_HUTS);
        for (int row = 0; row <= 7; row++) {
            s.append(" row");
            for (int i = 0; i < 40 && item(x, row, i) > Check.PLACE; i++) {
                s.append(' ').append(item(x, row, i));
            }
            s.append(" drop ").append(x.drop(row));
        }
    }

    /** An object with a hill by which the items of its rows can be read: six huts, nobody chocked. */
    static HillHouses reader() {
        return Check.hillOf(SIX_HUTS);
    }

    /** An item of a reader's row, told by the house that is chocked by it; BAD for one that is no house. */
    static int item(HillHouses x, int row, int i) {
        int chocked = x.chocks(row, i, 1);
        if (chocked != 1) {
            return chocked;
        }
        int house = 0;
        while (house < 5 && x.house(house, 3) == 0) {
            house++;
        }
        x.undo();
        return house;
    }

    static void items(String call, HillHouses x, int row, int... want) {
        for (int i = 0; i < want.length; i++) {
            Check.due(call + ": item " + i + " of row " + row, item(x, row, i), want[i]);
        }
        Check.due(call + ": the end of row " + row, item(x, row, want.length), Check.PLACE);
    }
}
