/** Promises 25 to 30: kinds, asks and their trace, counts, status. */
public final class AskedTest {
    private static final String ALL = "slope 4 20;house church 0 3 9;house barn 1 4 8;house inn 2 5 7;house mill 3 6 6;house hut 0 7 5;";
    private static final int[] NO_HOUSE = {-1, 5, 32, Integer.MIN_VALUE, Integer.MAX_VALUE};

    public static void main(String[] args) {
        kindsAreTold();
        housesAreTakenAs();
        sizesAreAsked();
        marksAreAsked();
        asksAreRefused();
        traceStays();
        countsAreTold();
        statusIsOfTheLatest();
        readmeHolds();
        Check.end("AskedTest");
    }

    private static void kindsAreTold() {
        HillHouses x = Check.hillOf(ALL);
        for (int h = 0; h < 5; h++) {
            Check.due("kind(" + h + ")", x.kind(h), h + 1);
        }
        for (int house : NO_HOUSE) {
            Check.due("kind of no house", x.kind(house), Check.BAD);
        }
    }

    private static void housesAreTakenAs() {
        HillHouses x = Check.hillOf(ALL);
        // By house: the kinds that it is, as bits.
        int[] such = {0b000011, 0b000111, 0b001001, 0b011001, 0b101001};
        for (int h = 0; h < such.length; h++) {
            for (int kind = 0; kind <= 5; kind++) {
                boolean is = (such[h] >> kind & 1) == 1;
                Check.due("as(" + h + ", " + kind + ")", x.as(h, kind), is ? h : Check.KIND);
                Check.due("status", x.status(), is ? 0 : 3);
            }
        }
        Check.due("as(0, 2)", x.as(0, 2), Check.KIND);
        for (int house : NO_HOUSE) {
            Check.due("as of no house", x.as(house, 0), Check.BAD);
        }
        for (int kind : new int[] {-1, 6, Integer.MIN_VALUE, Integer.MAX_VALUE}) {
            Check.due("as no kind", x.as(0, kind), Check.BAD);
        }
        Check.due("status stays", x.status(), 3);
    }

    private static void asked(HillHouses x, int house, int what, int want, int... trace) {
        Check.due("ask(" + house + ", " + what + ")", x.ask(house, what), want);
        for (int i = 0; i < trace.length; i++) {
            Check.due("trace(" + i + ") of ask(" + house + ", " + what + ")", x.trace(i), trace[i]);
        }
        for (int i = trace.length; i < 18; i++) {
            Check.due("trace(" + i + ")", x.trace(i), Check.NONE);
        }
    }

    private static void sizesAreAsked() {
        HillHouses x = Check.hillOf(ALL);
        asked(x, 0, 0, 9 - 100, 13, 10);
        asked(x, 1, 0, 2 * (8 - 100), 14, 13, 10);
        asked(x, 2, 0, 7 + 2 + 5, 11, 10, 21, 20);
        asked(x, 3, 0, -(6 + 2 * (3 + 6)), 12, 11, 10, 24, 21, 20);
        asked(x, 4, 0, 5 + 4 + 7 - 1000, 11, 10, 22, 21, 20);
    }

    private static void marksAreAsked() {
        HillHouses x = Check.hillOf(ALL);
        asked(x, 0, 1, 0 - (9 - 100), 23, 20, 13, 10);
        asked(x, 1, 1, 1 - 2 * (8 - 100), 23, 20, 14, 13, 10);
        asked(x, 2, 1, 2 + 5, 21, 20);
        asked(x, 3, 1, 2 * (3 + 6), 24, 21, 20);
        asked(x, 4, 1, 4 + 7 - 1000, 22, 21, 20);
        x.winter();
        asked(x, 2, 1, 2 + 7, 21, 20);
    }

    private static void asksAreRefused() {
        HillHouses x = Check.hillOf(ALL);
        asked(x, 0, 0, -91, 13, 10);
        for (int house : NO_HOUSE) {
            Check.due("ask of no house", x.ask(house, 0), Check.BAD);
        }
        for (int what : new int[] {-1, 2, Integer.MIN_VALUE, Integer.MAX_VALUE}) {
            Check.due("ask of nothing", x.ask(0, what), Check.BAD);
        }
        Check.due("trace stays", x.trace(0), 13);
        Check.due("trace stays", x.trace(1), 10);
        Check.due("trace stays", x.trace(2), Check.NONE);
    }

    private static void traceStays() {
        HillHouses x = Check.hillOf(ALL);
        asked(x, 3, 0, -24, 12, 11, 10, 24, 21, 20);
        for (int i : new int[] {-1, 6, 15, 16, Integer.MIN_VALUE, Integer.MAX_VALUE}) {
            Check.due("trace(" + i + ")", x.trace(i), Check.NONE);
        }
        x.winter();
        x.undo();
        Check.due("hill", Check.read(x, "slope 1 4;"), 0);
        Check.due("ask without houses", x.ask(0, 0), Check.BAD);
        Check.due("trace stays", x.trace(5), 20);
    }

    private static void counts(HillHouses x, int... want) {
        for (int what = 0; what < want.length; what++) {
            Check.due("count(" + what + ")", x.count(what), want[what]);
        }
    }

    private static void countsAreTold() {
        HillHouses x = Check.hillOf("slope 2 9;stone 1 8;stone 0 8;stone 1 8;house hut 0 0 1;house hut 1 0 1;");
        counts(x, 0, 2, 2, 0, 0, 0, 0);
        x.row(3, 0, 0);
        x.row(4, 0, 9);
        x.winter();
        x.winter();
        x.chock(1, 1);
        x.feed(0, 5);
        counts(x, 2, 2, 2, 2, 3, 1, 5);
        for (int what : new int[] {-1, 7, Integer.MIN_VALUE, Integer.MAX_VALUE}) {
            Check.due("count(" + what + ")", x.count(what), Check.BAD);
        }
    }

    private static void statusIsOfTheLatest() {
        HillHouses x = Check.hillOf(ALL);
        Check.due("drop", x.drop(0), Check.NULL);
        Check.due("status", x.status(), 1);
        // No row, no as(): none of these tells a status.
        x.winter();
        x.haul(0, 0);
        x.undo();
        x.kind(0);
        x.ask(0, 0);
        x.image(0);
        x.restore(0);
        x.count(0);
        x.feed(0, 1);
        x.hill();
        // Refused: nor do these.
        x.row(8, 0, 0);
        x.set(8, 0, 0);
        x.copy(8, 0, 0, 0, 0);
        x.drop(8);
        x.chocks(8, 0, 1);
        x.stolen(8);
        x.as(8, 0);
        Check.due("status stays", x.status(), 1);
        Check.due("as", x.as(1, 3), Check.KIND);
        Check.due("status", x.status(), 3);
        Check.due("row", x.row(0, 0, -1), Check.SIZE);
        Check.due("status", x.status(), 4);
        Check.due("row", x.row(0, 0, 5), 5);
        Check.due("status", x.status(), 0);
        Check.due("set", x.set(0, 5, 0), Check.PLACE);
        Check.due("status", x.status(), 2);
        Check.due("stolen", x.stolen(0), Check.NONE);
        Check.due("status", x.status(), 0);
        x.row(1, 1, 5);
        Check.due("copy", x.copy(0, 0, 1, 0, 1), Check.STORE);
        Check.due("status", x.status(), 5);
        Check.due("chocks", x.chocks(0, 0, 1), 1);
        Check.due("status", x.status(), 0);
    }

    private static void readmeHolds() {
        HillHouses hill = new HillHouses();
        for (byte b : "slope 2 9; stone 0 8; house inn 0 1 5; house church 1 0 12;".getBytes()) {
            hill.feed(b, 1);
        }
        Check.due("hill()", hill.hill(), 2);
        Check.due("winter()", hill.winter(), 3);
        Check.due("house(0, 1)", hill.house(0, 1), 3);
        Check.due("ahead(1, 4, 1)", hill.ahead(1, 4, 1), 3);
        Check.due("meet(0, 1, 5, 0)", hill.meet(0, 1, 5, 0), 5);
        Check.due("undo()", hill.undo(), 0);
    }
}
