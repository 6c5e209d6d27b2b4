/** What the document says of kinds, asks, the trace, counts and status, sentence by sentence: promises 25 to 30. */
final class AskedSentences {
    /** A house of each kind, by the kinds' numbers less one. */
    private static final String KINDS = "slope 4 20;house church 0 3 9;house barn 1 4 8;house inn 2 5 7;"
        + "house mill 3 6 20;house hut 0 7 1;";
    private static final int CHURCH = 0, BARN = 1, INN = 2, MILL = 3, HUT = 4;

    private AskedSentences() {
    }

    static void all() {
        kindsAreOthers();
        kindsByAsk();
        sizes();
        marks();
        bodies();
        traceIsLeft();
        kindIsTold();
        housesAreTakenAs();
        askIsTold();
        traceIsTold();
        rowsAndHousesAreCounted();
        theRestIsCounted();
        statusIsOfFindings();
        statusIsCleared();
    }

    private static void kindsAre(int house, int... kinds) {
        HillHouses x = Check.hillOf(KINDS);
        int such = 0;
        for (int kind : kinds) {
            such |= 1 << kind;
        }
        for (int kind = 0; kind <= 5; kind++) {
            boolean is = (such >> kind & 1) == 1;
            Check.due("as(" + house + ", " + kind + ")", x.as(house, kind), is ? house : Check.KIND);
        }
    }

    private static void kindsAreOthers() {
        Check.says("Terms", "KINDS of HOUSES: 0 HOUSE; 1 CHURCH, a HOUSE;");
        kindsAre(CHURCH, 0, 1);
        Check.says("Terms", "2 BARN, a CHURCH one;");
        kindsAre(BARN, 0, 1, 2);
        Check.says("Terms", "3 INN, a HOUSE;");
        kindsAre(INN, 0, 3);
        Check.says("Terms", "4 MILL, an INN one;");
        kindsAre(MILL, 0, 3, 4);
        Check.says("Terms", "5 HUT, an INN one.");
        kindsAre(HUT, 0, 3, 5);
    }

    private static void kindsByAsk() {
        Check.says("Terms", "By this it is asked (barns ROLL in odd WINTERS, too; mills, huts ROLL once).");
        HillHouses x = Check.hillOf("slope 4 20;house barn 0 3 1;house mill 1 4 1;house hut 2 5 1;");
        for (int gone = 1; gone <= 6; gone++) {
            Check.due("winter", x.winter(), 7);
            Check.yards("winter", x, 3 + gone, 4 + gone, 5 + gone);
        }
        asked(x, 0, 0, 2 * (1 - 100), 14, 13, 10);
        asked(x, 1, 1, 2 * (1 + 10), 24, 21, 20);
        asked(x, 2, 1, 2 + 11 - 1000, 22, 21, 20);
    }

    /** The answer of an ask, and all that it left in the trace. */
    private static void asked(HillHouses x, int house, int what, int want, int... trace) {
        String call = "ask(" + house + ", " + what + ")";
        Check.due(call, x.ask(house, what), want);
        for (int i = 0; i <= 17; i++) {
            Check.due(call + ", trace(" + i + ")", x.trace(i), i < trace.length ? trace[i] : Check.NONE);
        }
    }

    private static void sizes() {
        HillHouses x = Check.hillOf(KINDS);
        Check.says("Terms", "0 SIZE: 10 lent to all HOUSES: HEAVY.");
        for (int h = 0; h <= 4; h++) {
            x.ask(h, 0);
            int at = 0;
            while (at < 6 && x.trace(at) != 10) {
                at++;
            }
            Check.due("10 in the trace of " + h, x.trace(at), 10);
        }
        HillHouses heavy = Check.hillOf("slope 2 4;house church 0 0 1;house church 1 0 20;");
        Check.due("a light one's", heavy.ask(0, 0), -99);
        Check.due("a heavy one's", heavy.ask(1, 0), -80);
        Check.says("Terms", "11 of INNS: what 10 gives, and MARK.");
        asked(x, INN, 0, 7 + 7, 11, 10, 21, 20);
        Check.says("Terms", "12 of MILLS: 0 less what 11 gives.");
        asked(x, MILL, 0, -(20 + 18), 12, 11, 10, 24, 21, 20);
        Check.says("Terms", "13 of CHURCHES: what 10 gives, less 100.");
        asked(x, CHURCH, 0, -91, 13, 10);
        Check.says("Terms", "14 of BARNS: twice what 13 gives (asked once).");
        asked(x, BARN, 0, -184, 14, 13, 10);
    }

    private static void marks() {
        HillHouses x = Check.hillOf(KINDS);
        Check.says("Terms", "1 MARK: 20 lent to all HOUSES: its number.");
        HillHouses inns = Check.hillOf("slope 4 4;house inn 3 0 1;house inn 2 0 1;house inn 1 0 1;house inn 0 0 1;");
        for (int h = 0; h <= 3; h++) {
            asked(inns, h, 1, h, 21, 20);
        }
        Check.says("Terms", "21 of INNS: what 20 gives, and its YARD.");
        asked(x, INN, 1, 2 + 5, 21, 20);
        Check.says("Terms", "22 of HUTS: what 21 gives, less 1000.");
        asked(x, HUT, 1, 4 + 7 - 1000, 22, 21, 20);
        Check.says("Terms", "23 of CHURCHES: what 20 gives, less SIZE.");
        asked(x, CHURCH, 1, 0 + 91, 23, 20, 13, 10);
        Check.says("Terms", "24 of MILLS: twice what 21 gives (asked once).");
        asked(x, MILL, 1, 2 * (3 + 6), 24, 21, 20);
        x.winter();
        asked(x, INN, 1, 2 + 7, 21, 20);
        asked(x, MILL, 1, 2 * (3 + 7), 24, 21, 20);
    }

    private static void bodies() {
        HillHouses x = Check.hillOf(KINDS);
        Check.says("Terms", "(Of an ask the BODY told for the KIND begins");
        int[][] first = {{13, 23}, {14, 23}, {11, 21}, {12, 24}, {11, 22}};
        for (int h : new int[] {CHURCH, INN, MILL}) {
            for (int what = 0; what <= 1; what++) {
                x.ask(h, what);
                Check.due("the first of ask(" + h + ", " + what + ")", x.trace(0), first[h][what]);
            }
        }
        Check.says("Terms", ", else that of the nearest KIND that it is, too, else the one that is lent;");
        for (int h : new int[] {BARN, HUT}) {
            for (int what = 0; what <= 1; what++) {
                x.ask(h, what);
                Check.due("the first of ask(" + h + ", " + what + ")", x.trace(0), first[h][what]);
            }
        }
        Check.says("Terms", "SIZE, MARK within others are asked of the same HOUSE anew.)");
        asked(x, BARN, 1, 1 - 2 * (8 - 100), 23, 20, 14, 13, 10);
        asked(x, HUT, 0, 1 + 4 + 7 - 1000, 11, 10, 22, 21, 20);
        asked(x, MILL, 0, -(20 + 2 * (3 + 6)), 12, 11, 10, 24, 21, 20);
    }

    private static void traceIsLeft() {
        Check.says("Terms", "ASKS of HOUSES, by BODIES, each of which leaves its number in THE TRACE as it begins");
        HillHouses x = Check.hillOf(KINDS);
        asked(x, MILL, 0, -38, 12, 11, 10, 24, 21, 20);
        asked(x, CHURCH, 1, 91, 23, 20, 13, 10);
        asked(x, BARN, 1, 185, 23, 20, 14, 13, 10);
        // No ask leaves more than six: of all asks that follow one another none is left from the one before.
        Check.says("Terms", "(the first 16):");
        for (int many = 0; many < 20; many++) {
            Check.due("ask", x.ask(MILL, 0), -38);
        }
        for (int i = 6; i <= 40; i++) {
            Check.due("trace(" + i + ")", x.trace(i), Check.NONE);
        }
        Check.due("the last", x.trace(5), 20);
    }

    private static void kindIsTold() {
        Check.says("Promise 25", "The KIND of a HOUSE, as told (1 to 5).");
        HillHouses x = Check.hillOf(KINDS);
        for (int h = 0; h <= 4; h++) {
            Check.due("kind(" + h + ")", x.kind(h), h + 1);
        }
        HillHouses y = Check.hillOf("slope 1 9;house hut 0 5 1;house barn 0 4 1;house barn 0 3 1;house church 0 1 1;");
        int[] kinds = {5, 2, 2, 1};
        for (int h = 0; h < kinds.length; h++) {
            Check.due("kind(" + h + ")", y.kind(h), kinds[h]);
        }
        Check.says("Promise 25", "BAD.");
        Check.badOutside("kind", 4, x::kind);
        Check.due("kind without a hill", new HillHouses().kind(0), Check.BAD);
    }

    private static void housesAreTakenAs() {
        Check.says("Promise 26", "A HOUSE is taken as one of a KIND (0 .. 5): the HOUSE's number.");
        HillHouses x = Check.hillOf(KINDS);
        for (int h = 0; h <= 4; h++) {
            Check.due("as(" + h + ", 0)", x.as(h, 0), h);
            Check.due("as(" + h + ", " + (h + 1) + ")", x.as(h, h + 1), h);
            Check.due("its kind stays", x.kind(h), h + 1);
        }
        Check.says("Promise 26", "BAD;");
        Check.badOutside("as of house", 4, h -> x.as(h, 0));
        Check.badOutside("as", 5, kind -> x.as(2, kind));
        Check.badOutside("as, no house and no such kind", 4, h -> x.as(h, 9));
        Check.due("as without a hill", new HillHouses().as(0, 0), Check.BAD);
        Check.says("Promise 26", "KIND: it is no such one.");
        int[][] no = {{CHURCH, 2}, {CHURCH, 3}, {BARN, 3}, {BARN, 5}, {INN, 1}, {INN, 4}, {INN, 5}, {MILL, 5}, {MILL, 2},
            {HUT, 4}, {HUT, 1}};
        for (int[] houseKind : no) {
            Check.due("as(" + houseKind[0] + ", " + houseKind[1] + ")", x.as(houseKind[0], houseKind[1]), Check.KIND);
            Check.due("status", x.status(), 3);
        }
    }

    private static void askIsTold() {
        Check.says("Promise 27", "An ASK (0, 1) of a HOUSE.");
        HillHouses x = Check.hillOf(KINDS);
        int[] sizes = {-91, -184, 14, -38, 1 + 11 - 1000};
        int[] marks = {91, 185, 7, 18, 11 - 1000};
        for (int h = 0; h <= 4; h++) {
            Check.due("ask(" + h + ", 0)", x.ask(h, 0), sizes[h]);
            Check.due("ask(" + h + ", 1)", x.ask(h, 1), marks[h]);
        }
        Check.says("Promise 27", "BAD.");
        Check.badOutside("ask of house", 4, h -> x.ask(h, 0));
        Check.badOutside("ask", 1, what -> x.ask(0, what));
        Check.due("ask without a hill", new HillHouses().ask(0, 0), Check.BAD);
        Check.says("Promise 27", "THE TRACE is empty ahead of it");
        asked(x, MILL, 0, -38, 12, 11, 10, 24, 21, 20);
        asked(x, INN, 1, 7, 21, 20);
        asked(x, INN, 1, 7, 21, 20);
        Check.says("Promise 27", "(where that is refused it stays).");
        x.ask(5, 0);
        x.ask(0, 2);
        x.ask(-1, -1);
        Check.due("trace(0)", x.trace(0), 21);
        Check.due("trace(1)", x.trace(1), 20);
        Check.due("trace(2)", x.trace(2), Check.NONE);
        Check.due("a hill without houses", Check.read(x, "slope 1 4;"), 0);
        Check.due("ask", x.ask(0, 0), Check.BAD);
        Check.due("trace(1)", x.trace(1), 20);
    }

    private static void traceIsTold() {
        Check.says("Promise 28", "Number i of THE TRACE; NONE.");
        HillHouses x = Check.hillOf(KINDS);
        for (int i : new int[] {-1, 0, 1, 15, 16, Check.LEAST, Check.MOST}) {
            Check.due("trace(" + i + ") ahead of an ask", x.trace(i), Check.NONE);
        }
        Check.due("ask", x.ask(HUT, 0), 12 - 1000);
        int[] trace = {11, 10, 22, 21, 20};
        for (int i = 0; i < trace.length; i++) {
            Check.due("trace(" + i + ")", x.trace(i), trace[i]);
        }
        for (int i : new int[] {-1, 5, 6, 15, 16, 17, Check.LEAST, Check.MOST}) {
            Check.due("trace(" + i + ")", x.trace(i), Check.NONE);
        }
        Check.due("trace of a new object", new HillHouses().trace(0), Check.NONE);
    }

    private static void rowsAndHousesAreCounted() {
        Check.says("Promise 29", "How many: 0 ROWS, 1 HOUSES,");
        HillHouses x = new HillHouses();
        for (int row = 7; row >= 0; row--) {
            x.row(row, 0, 0);
            Check.due("rows", x.count(0), 8 - row);
        }
        x.row(3, 2, 40);
        Check.due("rows, one made anew", x.count(0), 8);
        x.drop(3);
        x.drop(3);
        Check.due("rows, one dropped", x.count(0), 7);
        Check.due("houses", x.count(1), 0);
        Check.read(x, "slope 1 4;house hut 0 0 1;house inn 0 3 1;");
        Check.due("houses", x.count(1), 2);
        Check.read(x, "slope 1 4;");
        Check.due("houses", x.count(1), 0);
        Check.says("Promise 29", "2 stones (unlike places),");
        Check.due("stones", x.count(2), 0);
        Check.read(x, "slope 2 20;stone 0 19;stone 1 19;stone 0 19;stone 1 0;stone 0 0;stone 1 19;stone 0 1;stone 0 10;");
        Check.due("stones", x.count(2), 6);
        Check.read(x, "slope 2 20;" + "stone 1 7;".repeat(8));
        Check.due("stones", x.count(2), 1);
    }

    private static void theRestIsCounted() {
        Check.says("Promise 29", "3 WINTERS gone, 4 ACTS that can be undone, 5 HOUSES that are CHOCKED, 6 bytes on the tape.");
        HillHouses x = Check.hillOf("slope 2 9;house hut 0 1 1;house hut 0 5 1;house hut 1 5 1;");
        rest(x, 0, 0, 0, 0);
        x.winter();
        rest(x, 1, 1, 0, 0);
        x.chock(2, 1);
        x.chock(0, 1);
        x.chock(0, 1);
        rest(x, 1, 4, 2, 0);
        x.winter();
        x.haul(1, 1);
        rest(x, 2, 6, 2, 0);
        x.undo();
        x.undo();
        rest(x, 1, 4, 2, 0);
        x.undo();
        x.undo();
        rest(x, 1, 2, 1, 0);
        x.feed(0, 8);
        x.feed(0, 3);
        x.feed(0, 9);
        rest(x, 1, 2, 1, 11);
        x.hill();
        rest(x, 1, 2, 1, 0);
        Check.says("Promise 29", "BAD.");
        Check.badOutside("count", 6, x::count);
        Check.badOutside("count of a new object", 6, new HillHouses()::count);
    }

    private static void rest(HillHouses x, int... want) {
        for (int what = 3; what <= 6; what++) {
            Check.due("count(" + what + ")", x.count(what), want[what - 3]);
        }
    }

    private static void statusIsOfFindings() {
        Check.says("Promise 30", "Of the latest call with a ROW, or as(), that was not BAD, STATE, FULL: the number of its FINDING");
        HillHouses x = Check.hillOf(KINDS);
        x.row(1, 0, 2);
        x.row(2, 1, 2);
        status(x, "drop", x.drop(0), Check.NULL);
        status(x, "set", x.set(1, 2, 0), Check.PLACE);
        status(x, "as", x.as(0, 5), Check.KIND);
        status(x, "row", x.row(0, 0, -1), Check.SIZE);
        status(x, "copy", x.copy(1, 0, 2, 0, 1), Check.STORE);
        status(x, "set", x.set(0, 0, 0), Check.NULL);
        status(x, "copy", x.copy(1, 0, 1, 1, 2), Check.PLACE);
        status(x, "copy", x.copy(1, 0, 0, 0, 0), Check.NULL);
        status(x, "chocks", x.chocks(2, 1, 2), Check.PLACE);
        status(x, "chocks", x.chocks(0, 0, 1), Check.NULL);
        status(x, "stolen", x.stolen(2), Check.PLACE);
        status(x, "stolen", x.stolen(0), Check.NULL);
        refused(x);
        others(x);
        Check.due("status stays", x.status(), 1);
    }

    /** Calls with a row, or as(), that are refused leave the status as it is. */
    private static void refused(HillHouses x) {
        int status = x.status();
        String[] bad = {"row", "set", "copy", "drop", "chocks", "stolen", "as", "chocks of no house", "stolen of no yard"};
        x.row(3, 2, 6);
        x.set(3, 0, 99);
        Check.due("as", x.as(0, 5), Check.KIND);
        int[] answers = {x.row(8, 0, 0), x.set(8, 0, 0), x.copy(8, 0, 0, 0, 0), x.drop(8), x.chocks(8, 0, 1), x.stolen(8),
            x.as(8, 0), x.chocks(3, 0, 1), x.stolen(3)};
        for (int k = 0; k < bad.length; k++) {
            Check.due(bad[k] + " that is BAD", answers[k], Check.BAD);
        }
        Check.due("status stays", x.status(), 3);
        HillHouses none = new HillHouses();
        status(none, "set", none.set(0, 0, 0), Check.NULL);
        Check.due("chocks without a hill", none.chocks(0, 0, 1), Check.STATE);
        Check.due("stolen without a hill", none.stolen(0), Check.STATE);
        Check.due("as without a hill", none.as(0, 0), Check.BAD);
        Check.due("status stays", none.status(), 1);
        status(x, "drop", x.drop(0), -1000010 - status);
    }

    private static void statusIsCleared() {
        Check.says("Promise 30", "; 0: it had none, or there was none.");
        Check.due("status of a new object", new HillHouses().status(), 0);
        HillHouses none = Check.hillOf(KINDS);
        none.winter();
        none.drop(9);
        Check.due("there was none", none.status(), 0);
        HillHouses x = Check.hillOf(KINDS);
        x.row(3, 2, 6);
        find(x);
        cleared(x, "row", x.row(5, 0, 0), 0);
        cleared(x, "set", x.set(3, 5, 4), 4);
        cleared(x, "copy", x.copy(3, 0, 3, 1, 2), 2);
        cleared(x, "drop", x.drop(5), 0);
        cleared(x, "as", x.as(1, 1), 1);
        cleared(x, "chocks", x.chocks(3, 4, 2), 2);
        cleared(x, "chocks of none that was not", x.chocks(3, 4, 2), 0);
        cleared(x, "stolen, none", x.stolen(3), Check.NONE);
        Check.rowOf(x, 3, 4, 5, 7, 7, 8);
        find(x);
        cleared(x, "stolen, a set", x.stolen(3), 1 << CHURCH | 1 << HUT);
        cleared(x, "an item that looks like a finding", x.set(3, 0, Check.SIZE), Check.SIZE);
        cleared(x, "an item that looks like BAD", x.set(3, 0, Check.BAD), Check.BAD);
    }

    private static void status(HillHouses x, String call, int got, int finding) {
        Check.due(call, got, finding);
        Check.due("status of " + call, x.status(), -1000010 - finding);
    }

    /** The call came behind a finding; another comes behind it. */
    private static void cleared(HillHouses x, String call, int got, int want) {
        Check.due(call, got, want);
        Check.due("status of " + call, x.status(), 0);
        find(x);
    }

    private static void find(HillHouses x) {
        Check.due("a finding", x.row(7, 0, -1), Check.SIZE);
        Check.due("its status", x.status(), 4);
    }

    /** Calls that have no row, and are not as(). */
    private static void others(HillHouses x) {
        x.winter();
        x.haul(2, 1);
        x.chock(1, 1);
        x.undo();
        x.house(0, 0);
        x.yard(0, 0);
        x.ahead(0, 3, 1);
        x.stream(0);
        x.beside(0, 1, 3);
        x.meet(0, 1, 3, 0);
        x.street(0);
        x.stood(0, 3, 3);
        x.image(0);
        x.restore(0);
        x.kind(0);
        x.ask(0, 0);
        x.trace(0);
        x.count(0);
        x.feed(0, 1);
        x.hill();
        x.fault();
    }
}
