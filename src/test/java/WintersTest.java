/** Promises 9 to 15: winters, hauling, chocks, undoing, and where each is. */
public final class WintersTest {
    private static final int[] NO_HOUSE = {-1, 2, 6, 32, Integer.MIN_VALUE, Integer.MAX_VALUE};

    public static void main(String[] args) {
        sortsRoll();
        fartherDownGoesFirst();
        barnLooksAsWinterBegins();
        wintersAreRefused();
        housesAreHauled();
        haulIsRefused();
        chocksHold();
        chocksOfRows();
        chocksAreRefused();
        actsAreUndone();
        oldestActIsForgotten();
        housesAreTold();
        yardsAreTold();
        Check.end("WintersTest");
    }

    private static void sortsRoll() {
        // No two begin in one yard, and no lane holds two.
        HillHouses x = Check.hillOf("slope 4 20;house church 0 0 1;house inn 1 1 1;house mill 2 4 1;house hut 3 5 1;");
        Check.due("winter 0", x.winter(), 15);
        Check.yards("winter 0", x, 1, 3, 5, 6);
        Check.due("winter 1", x.winter(), 14);
        Check.yards("winter 1", x, 1, 5, 6, 7);
        Check.due("winter 2", x.winter(), 15);
        Check.yards("winter 2", x, 2, 7, 7, 8);
        // A barn is a church one, and rolls in odd winters as well.
        HillHouses y = Check.hillOf("slope 1 20;house barn 0 0 1;");
        for (int gone = 1; gone <= 3; gone++) {
            Check.due("winter", y.winter(), 1);
            Check.yards("barn", y, gone);
        }
        // An inn rolls once where only one yard is free, and not at all at the stream.
        HillHouses z = Check.hillOf("slope 2 6;stone 0 3;house inn 0 1 1;house inn 1 4 1;");
        Check.due("winter", z.winter(), 3);
        Check.yards("inns", z, 2, 5);
        Check.due("winter", z.winter(), 0);
        Check.yards("inns", z, 2, 5);
        Check.due("count(3)", z.count(3), 2);
    }

    private static void fartherDownGoesFirst() {
        HillHouses x = Check.hillOf("slope 1 9;house hut 0 0 1;house hut 0 1 1;house hut 0 2 1;");
        Check.due("a file of huts", x.winter(), 7);
        Check.yards("file", x, 1, 2, 3);
        HillHouses w = Check.hillOf("slope 1 9;house hut 0 2 1;house hut 0 5 1;house hut 0 0 1;house hut 0 4 1;house hut 0 1 1;"
            + "house hut 0 3 1;");
        Check.due("six huts, not by numbers", w.winter(), 63);
        Check.yards("six huts", w, 3, 6, 1, 5, 2, 4);
        Check.due("six huts", w.winter(), 63);
        Check.due("six huts", w.winter(), 63);
        Check.due("all are down", w.winter(), 0);
        Check.yards("six huts", w, 5, 8, 3, 7, 4, 6);
        // The hut below has not rolled yet when none is ahead of it: the church that waits is in the way.
        HillHouses y = Check.hillOf("slope 1 9;house inn 0 2 1;house church 0 4 1;");
        Check.due("winter 0", y.winter(), 3);
        Check.yards("winter 0", y, 4, 5);
        Check.due("winter 1: a church in the way", y.winter(), 0);
        Check.due("winter 2", y.winter(), 3);
        Check.yards("winter 2", y, 5, 6);
        // Both steps of an inn come at its turn: the one behind it follows, the one ahead was ahead.
        HillHouses z = Check.hillOf("slope 1 9;house inn 0 0 1;house inn 0 1 1;");
        Check.due("two inns", z.winter(), 3);
        Check.yards("two inns", z, 2, 3);
    }

    private static void barnLooksAsWinterBegins() {
        // The inn leaves the barn's yard ahead of the barn's turn, but it was there as the winter began.
        HillHouses x = Check.hillOf("slope 3 9;house inn 2 3 1;house barn 0 3 1;");
        Check.due("winter 0", x.winter(), 1);
        Check.due("winter 1: the barn is alone", x.winter(), 3);
        Check.yards("winter 1", x, 7, 4);
        // A chocked one keeps a barn, and so does another barn.
        HillHouses y = Check.hillOf("slope 3 9;house barn 0 3 1;house barn 1 3 1;house hut 2 5 1;");
        y.chock(2, 1);
        Check.due("two barns", y.winter(), 0);
        Check.due("haul", y.haul(1, 1), 1);
        Check.due("apart", y.winter(), 3);
        Check.yards("apart", y, 4, 1, 5);
        Check.due("again", y.winter(), 3);
        Check.due("beside a chocked one", y.winter(), 2);
        // One that comes into the yard within the winter, farther up as it began, keeps no barn.
        HillHouses z = Check.hillOf("slope 2 9;house barn 0 3 1;house inn 1 1 1;");
        Check.due("barn ahead", z.winter(), 3);
        Check.yards("barn ahead", z, 4, 3);
    }

    private static void wintersAreRefused() {
        HillHouses x = new HillHouses();
        Check.due("winter without a hill", x.winter(), Check.STATE);
        // Far beyond 512 calls, where answers are free: only so is FULL to be seen.
        HillHouses y = Check.hillOf("slope 1 4;house hut 0 0 1;");
        for (int gone = 0; gone < 9999; gone++) {
            y.winter();
        }
        Check.due("count(3)", y.count(3), 9999);
        Check.due("winter", y.winter(), Check.FULL);
        Check.due("count(3)", y.count(3), 9999);
        Check.due("count(4)", y.count(4), 24);
    }

    private static void housesAreHauled() {
        HillHouses x = Check.hillOf("slope 2 9;house hut 0 5 7;house inn 1 3 20;house mill 0 7 1;house barn 1 8 2;");
        Check.due("haul(0, 1)", x.haul(0, 1), 7);
        Check.due("lane", x.house(0, 0), 1);
        Check.due("yard", x.house(0, 1), 0);
        lent(x, 0, 3, 2, 2);
        Check.due("haul(2, 0)", x.haul(2, 0), 1);
        lent(x, 1, 3, 2, 2);
        x.chock(1, 1);
        Check.due("haul of a chocked one", x.haul(1, 0), Check.STATE);
        x.winter();
        Check.due("haul of a chocked one", x.haul(1, 0), 20);
        lent(x, 8, 3, 9, 8);
        Check.due("chocked yet", x.house(1, 3), 1);
        Check.due("no winter is gone by it", x.count(3), 1);
        HillHouses y = Check.hillOf("slope 4 4;house hut 0 3 9;house hut 1 3 9;");
        Check.due("two houses", y.haul(1, 3), 9);
        lent(y, 9, 0);
        Check.due("its old place is free", y.yard(1, 3), -2);
        Check.due("its new place", y.yard(3, 0), 1);
    }

    private static void lent(HillHouses x, int... want) {
        for (int h = 0; h < want.length; h++) {
            Check.due("hands lent by " + h, x.house(h, 4), want[h]);
        }
    }

    private static void haulIsRefused() {
        HillHouses x = Check.hillOf("slope 3 9;stone 1 0;house hut 0 0 7;house hut 2 3 7;");
        for (int house : NO_HOUSE) {
            Check.due("haul of no house", x.haul(house, 0), Check.BAD);
        }
        for (int lane : new int[] {-1, 3, 4, Integer.MIN_VALUE, Integer.MAX_VALUE}) {
            Check.due("haul to no lane", x.haul(1, lane), Check.BAD);
        }
        Check.due("a house is there", x.haul(1, 0), Check.STATE);
        Check.due("a stone is there", x.haul(1, 1), Check.STATE);
        Check.due("it is there itself", x.haul(0, 0), Check.STATE);
        Check.due("no acts", x.count(4), 0);
        lent(x, 0, 0);
        HillHouses y = Check.hillOf("slope 3 9;house hut 0 1 7;");
        Check.due("no other house", y.haul(0, 2), Check.STATE);
        Check.due("BAD ahead of it", y.haul(0, 3), Check.BAD);
    }

    private static void chocksHold() {
        HillHouses x = Check.hillOf("slope 2 9;house hut 0 0 7;house hut 0 3 7;");
        Check.due("chock(1, 1)", x.chock(1, 1), 0);
        Check.due("chock(1, 1)", x.chock(1, 1), 1);
        Check.due("count(5)", x.count(5), 1);
        Check.due("winter", x.winter(), 1);
        Check.due("winter", x.winter(), 1);
        Check.due("a chocked one is in the way", x.winter(), 0);
        Check.yards("chocked", x, 2, 3);
        Check.due("chock(1, 0)", x.chock(1, 0), 1);
        Check.due("chock(1, 0)", x.chock(1, 0), 0);
        Check.due("winter", x.winter(), 3);
        Check.due("acts", x.count(4), 8);
        for (int house : NO_HOUSE) {
            Check.due("chock of no house", x.chock(house, 1), Check.BAD);
        }
        for (int is : new int[] {-1, 2, Integer.MIN_VALUE, Integer.MAX_VALUE}) {
            Check.due("chock, neither", x.chock(0, is), Check.BAD);
        }
        Check.due("acts", x.count(4), 8);
    }

    private static void chocksOfRows() {
        HillHouses x = Check.hillOf("slope 2 9;house hut 0 0 7;house hut 0 3 7;house hut 1 3 7;");
        x.chock(1, 1);
        Check.rowOf(x, 4, 9, 2, 1, 0, 2);
        Check.due("chocks(4, 1, 4)", x.chocks(4, 1, 4), 2);
        Check.due("count(5)", x.count(5), 3);
        Check.due("an act each", x.count(4), 5);
        Check.due("undo of one that was chocked already", x.undo(), 4);
        Check.due("count(5)", x.count(5), 3);
        Check.due("undo", x.undo(), 3);
        Check.due("house 0", x.house(0, 3), 0);
        Check.due("undo", x.undo(), 2);
        Check.due("house 1 was chocked ahead", x.house(1, 3), 1);
        Check.due("undo", x.undo(), 1);
        Check.due("house 2", x.house(2, 3), 0);
        Check.rowOf(x, 5, 0, 0, 0, 0, 0, 0);
        Check.due("one house, six times", x.chocks(5, 0, 6), 1);
        Check.due("six acts", x.count(4), 7);
    }

    private static void chocksAreRefused() {
        HillHouses x = new HillHouses();
        Check.due("STATE ahead of BAD", x.chocks(-1, 0, 0), Check.STATE);
        Check.due("hill", Check.read(x, "slope 2 9;house hut 0 0 7;house hut 0 3 7;"), 2);
        for (int row : new int[] {-1, 8, Integer.MIN_VALUE, Integer.MAX_VALUE}) {
            Check.due("chocks of no row", x.chocks(row, 0, 1), Check.BAD);
        }
        for (int n : new int[] {-1, 0, 7, Integer.MIN_VALUE, Integer.MAX_VALUE}) {
            Check.due("chocks of n = " + n, x.chocks(0, 0, n), Check.BAD);
        }
        Check.due("status", x.status(), 0);
        Check.due("chocks of a missing row", x.chocks(0, -1, 1), Check.NULL);
        Check.due("status", x.status(), 1);
        Check.rowOf(x, 0, 0, 1, 2, -1);
        for (int i : new int[] {-1, 4, Integer.MIN_VALUE, Integer.MAX_VALUE}) {
            Check.due("chocks from " + i, x.chocks(0, i, 1), Check.PLACE);
        }
        Check.due("chocks beyond the end", x.chocks(0, 0, 5), Check.PLACE);
        Check.due("status", x.status(), 2);
        Check.due("an item that is no house", x.chocks(0, 1, 2), Check.BAD);
        Check.due("an item below none", x.chocks(0, 3, 1), Check.BAD);
        Check.due("status stays", x.status(), 2);
        Check.due("none is chocked", x.count(5), 0);
        Check.due("no acts", x.count(4), 0);
        Check.due("chocks", x.chocks(0, 0, 2), 2);
        Check.due("status", x.status(), 0);
    }

    private static void actsAreUndone() {
        HillHouses x = new HillHouses();
        Check.due("undo without a hill", x.undo(), Check.STATE);
        Check.due("hill", Check.read(x, "slope 2 9;house hut 0 0 7;house inn 1 3 5;house hut 1 8 2;"), 3);
        Check.due("undo of none", x.undo(), Check.STATE);
        x.winter();
        x.chock(0, 1);
        x.haul(1, 0);
        x.chock(0, 0);
        x.winter();
        Check.due("count(4)", x.count(4), 5);
        Check.yards("ahead", x, 2, 1, 8);
        Check.due("undo", x.undo(), 4);
        Check.yards("a winter undone", x, 1, 0, 8);
        Check.due("count(3)", x.count(3), 1);
        Check.due("undo", x.undo(), 3);
        Check.due("chocked again", x.house(0, 3), 1);
        Check.due("undo", x.undo(), 2);
        Check.yards("a haul undone", x, 1, 5, 8);
        Check.due("its lane", x.house(1, 0), 1);
        lent(x, 0, 0, 0);
        Check.due("undo", x.undo(), 1);
        Check.due("free again", x.house(0, 3), 0);
        Check.due("undo", x.undo(), 0);
        Check.yards("all undone", x, 0, 3, 8);
        Check.due("count(3)", x.count(3), 0);
        Check.due("undo", x.undo(), Check.STATE);
        // Hands that were lent ahead of an act that is undone stay lent.
        x.haul(2, 1);
        x.winter();
        x.haul(1, 1);
        lent(x, 4, 1, 2);
        Check.due("undo", x.undo(), 2);
        lent(x, 1, 1, 0);
        Check.due("undo", x.undo(), 1);
        lent(x, 1, 1, 0);
        Check.due("undo", x.undo(), 0);
        lent(x, 0, 0, 0);
        // Refusals and questions are no acts.
        x.haul(0, 0);
        x.chock(7, 1);
        x.street(0);
        x.ahead(0, 5, 1);
        x.meet(0, 1, 3, 0);
        x.stood(1, 2, 3);
        x.image(0);
        Check.due("undo", x.undo(), Check.STATE);
    }

    private static void oldestActIsForgotten() {
        HillHouses x = Check.hillOf("slope 1 20;house hut 0 0 7;");
        for (int gone = 0; gone < 30; gone++) {
            x.winter();
        }
        Check.due("count(4)", x.count(4), 24);
        for (int left = 23; left >= 0; left--) {
            Check.due("undo", x.undo(), left);
            Check.due("winters", x.count(3), left + 6);
            Check.yards("winter " + (left + 6), x, Math.min(19, left + 6));
        }
        Check.due("undo", x.undo(), Check.STATE);
        for (int gone = 0; gone < 26; gone++) {
            x.winter();
        }
        Check.due("undo", x.undo(), 23);
        Check.due("winters", x.count(3), 31);
    }

    private static void housesAreTold() {
        HillHouses x = Check.hillOf("slope 3 9;stone 1 7;house hut 0 0 7;house inn 1 3 20;");
        int[] first = {0, 0, 7, 0, 0, 8};
        int[] second = {1, 3, 20, 0, 0, 3};
        for (int what = 0; what <= 5; what++) {
            Check.due("house(0, " + what + ")", x.house(0, what), first[what]);
            Check.due("house(1, " + what + ")", x.house(1, what), second[what]);
        }
        for (int what : new int[] {-1, 6, Integer.MIN_VALUE, Integer.MAX_VALUE}) {
            Check.due("house, no such thing", x.house(0, what), Check.BAD);
        }
        for (int house : NO_HOUSE) {
            Check.due("no house", x.house(house, 0), Check.BAD);
        }
        // A house ends the view as a stone does; behind it nothing counts.
        HillHouses y = Check.hillOf("slope 1 9;house hut 0 1 1;house hut 0 5 1;house hut 0 6 1;house hut 0 8 1;");
        int[] views = {3, 0, 1, 0};
        for (int h = 0; h < views.length; h++) {
            Check.due("view of " + h, y.house(h, 5), views[h]);
        }
    }

    private static void yardsAreTold() {
        HillHouses x = Check.hillOf("slope 2 5;stone 1 4;house hut 0 0 7;house inn 1 3 20;");
        Check.due("a house", x.yard(1, 3), 1);
        Check.due("a stone", x.yard(1, 4), -1);
        Check.due("nothing", x.yard(0, 4), -2);
        Check.due("house 0", x.yard(0, 0), 0);
        for (int none : new int[] {-1, 5, 32, Integer.MIN_VALUE, Integer.MAX_VALUE}) {
            Check.due("no lane", x.yard(none, 0), Check.BAD);
            Check.due("no yard", x.yard(0, none), Check.BAD);
        }
        Check.due("no lane 2", x.yard(2, 0), Check.BAD);
        Check.due("no hill", new HillHouses().yard(0, 0), Check.BAD);
    }
}
