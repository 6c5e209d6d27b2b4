/** Promises 16 to 24: what is foretold, where one stood, stolen chocks, images. */
public final class ForetoldTest {
    private static final int[] NO_HOUSE = {-1, 3, 6, 32, Integer.MIN_VALUE, Integer.MAX_VALUE};
    private static final int[] NO_COUNT = {-1, 41, Integer.MIN_VALUE, Integer.MAX_VALUE};
    private static final String THREE = "slope 3 9;stone 1 6;house inn 0 0 4;house church 1 1 5;house hut 2 2 6;";

    public static void main(String[] args) {
        aheadIsForetold();
        streamIsForetold();
        besideIsForetold();
        meetIsForetold();
        meetIsLeast();
        meetTakesAllChocks();
        meetIsRefused();
        streetsStand();
        stoodIsFound();
        stoodIsRefused();
        stolenIsFound();
        stolenIsRefused();
        imagesAreKept();
        Check.end("ForetoldTest");
    }

    private static void aheadIsForetold() {
        HillHouses x = Check.hillOf(THREE);
        int[][] yards = {{0, 1, 2}, {2, 2, 3}, {4, 2, 4}, {6, 3, 5}, {8, 3, 6}, {8, 4, 7}, {8, 4, 8}, {8, 5, 8}};
        for (int n = 0; n < yards.length; n++) {
            for (int h = 0; h < 3; h++) {
                Check.due("ahead(" + h + ", " + n + ", 1)", x.ahead(h, n, 1), yards[n][h]);
                Check.due("ahead(" + h + ", " + n + ", 0)", x.ahead(h, n, 0), h);
            }
        }
        Check.due("ahead by 40", x.ahead(1, 40, 1), 5);
        Check.yards("nothing changes", x, 0, 1, 2);
        Check.due("winters", x.count(3), 0);
        // From an odd winter on, and with a chock.
        x.winter();
        x.chock(2, 1);
        Check.due("church in winter 1", x.ahead(1, 1, 1), 2);
        Check.due("church in winter 2", x.ahead(1, 2, 1), 3);
        Check.due("chocked hut", x.ahead(2, 40, 1), 3);
        for (int house : NO_HOUSE) {
            Check.due("ahead of no house", x.ahead(house, 0, 0), Check.BAD);
        }
        for (int n : NO_COUNT) {
            Check.due("ahead by " + n, x.ahead(0, n, 0), Check.BAD);
        }
        Check.due("ahead, what = 2", x.ahead(0, 0, 2), Check.BAD);
        Check.due("ahead, what = -1", x.ahead(0, 0, -1), Check.BAD);
    }

    private static void streamIsForetold() {
        HillHouses x = Check.hillOf(THREE);
        Check.due("inn", x.stream(0), 4);
        Check.due("church behind a stone", x.stream(1), Check.NONE);
        Check.due("hut", x.stream(2), 6);
        x.chock(2, 1);
        Check.due("chocked hut", x.stream(2), Check.NONE);
        for (int gone = 0; gone < 4; gone++) {
            x.winter();
        }
        Check.due("at the stream now", x.stream(0), 0);
        for (int house : NO_HOUSE) {
            Check.due("stream of no house", x.stream(house), Check.BAD);
        }
        // Nineteen yards in every other winter, from winter 0 and from winter 1 on.
        HillHouses y = Check.hillOf("slope 1 20;house church 0 0 1;");
        Check.due("church from an even winter", y.stream(0), 37);
        y.winter();
        Check.due("church from an odd winter", y.stream(0), 36);
        // A barn beside a chocked hut, which rolls no more.
        HillHouses z = Check.hillOf("slope 2 20;house barn 0 0 1;house hut 1 0 1;");
        Check.due("barn", z.stream(0), 20);
        // A barn that a church keeps in every even winter, from an odd one on.
        HillHouses w = Check.hillOf("slope 2 20;house church 0 0 1;house barn 1 0 1;");
        Check.due("barn behind a church", w.stream(1), 38);
        w.chock(0, 1);
        w.winter();
        w.chock(0, 0);
        Check.due("church from an odd winter", w.stream(0), 38);
        Check.due("barn behind a church from an odd winter", w.stream(1), 39);
    }

    private static void besideIsForetold() {
        HillHouses x = Check.hillOf("slope 4 9;house inn 0 0 4;house hut 1 2 5;house inn 2 0 6;house inn 3 2 1;");
        Check.due("beside(0, 1, 0)", x.beside(0, 1, 0), 0);
        Check.due("beside(0, 1, 2)", x.beside(0, 1, 2), 1);
        Check.due("beside(1, 0, 2)", x.beside(1, 0, 2), 1);
        Check.due("beside(0, 2, 0): a lane between", x.beside(0, 2, 0), 0);
        Check.due("beside(2, 1, 2)", x.beside(2, 1, 2), 1);
        Check.due("beside(0, 1, 40), all at the stream", x.beside(0, 1, 40), 1);
        HillHouses y = Check.hillOf("slope 1 9;house hut 0 1 1;house hut 0 2 1;");
        Check.due("of one lane", y.beside(0, 1, 0), 0);
        Check.due("alike", x.beside(1, 1, 0), Check.BAD);
        for (int house : new int[] {-1, 4, Integer.MIN_VALUE, Integer.MAX_VALUE}) {
            Check.due("beside no house", x.beside(house, 1, 0), Check.BAD);
            Check.due("no house beside", x.beside(1, house, 0), Check.BAD);
        }
        for (int n : NO_COUNT) {
            Check.due("beside behind " + n, x.beside(0, 1, n), Check.BAD);
        }
    }

    private static void meet(HillHouses x, int a, int b, int n, int both, int first) {
        Check.due("meet(" + a + ", " + b + ", " + n + ", 0)", x.meet(a, b, n, 0), both);
        Check.due("meet(" + a + ", " + b + ", " + n + ", 1)", x.meet(a, b, n, 1), first);
    }

    private static void meetIsForetold() {
        HillHouses x = Check.hillOf("slope 2 20;house hut 0 5 1;house hut 1 2 1;");
        meet(x, 0, 1, 0, Check.NONE, Check.NONE);
        meet(x, 0, 1, 2, Check.NONE, Check.NONE);
        meet(x, 0, 1, 3, 3, 3);
        meet(x, 1, 0, 3, 3, 0);
        meet(x, 0, 1, 20, 0, 0);
        HillHouses y = Check.hillOf("slope 2 20;house hut 0 2 1;house hut 1 2 1;");
        meet(y, 0, 1, 0, 0, 0);
        meet(y, 0, 1, 20, 0, 0);
        HillHouses z = Check.hillOf("slope 3 20;house hut 0 2 1;house hut 2 2 1;");
        meet(z, 0, 1, 5, Check.NONE, Check.NONE);
        // One that is chocked now stays so behind the first winters.
        x.chock(1, 1);
        meet(x, 0, 1, 5, Check.NONE, Check.NONE);
        x.chock(0, 1);
        meet(x, 0, 1, 5, Check.NONE, Check.NONE);
        Check.due("nothing is unchocked by asking", x.count(5), 2);
        y.chock(0, 1);
        meet(y, 0, 1, 5, 5, 0);
        meet(y, 1, 0, 5, 5, 5);
    }

    private static void meetIsLeast() {
        // Both at the stream's yard only if either is kept: of several the least x.
        HillHouses x = Check.hillOf("slope 2 4;stone 0 3;house hut 0 0 1;house hut 1 0 1;");
        meet(x, 0, 1, 3, 1, 0);
        meet(x, 1, 0, 3, 1, 1);
        // An inn that goes two yards and a hut: kept for a winter, both go on.
        HillHouses y = Check.hillOf("slope 2 20;house inn 0 0 1;house hut 1 4 1;");
        meet(y, 0, 1, 4, 0, 0);
        meet(y, 0, 1, 5, 2, 1);
        HillHouses z = Check.hillOf("slope 2 20;house inn 0 3 1;house hut 1 4 1;");
        meet(z, 0, 1, 6, 4, 3);
    }

    private static void meetTakesAllChocks() {
        // Either is farther down for good as soon as it rolls.
        HillHouses x = Check.hillOf("slope 2 20;stone 1 2;house inn 0 0 1;house hut 1 0 1;");
        meet(x, 0, 1, 1, 2, 1);
        meet(x, 0, 1, 4, 8, 4);
        meet(x, 0, 1, 20, 40, 20);
        meet(x, 1, 0, 20, 40, 20);
    }

    private static void meetIsRefused() {
        HillHouses x = Check.hillOf(THREE);
        Check.due("alike", x.meet(2, 2, 0, 0), Check.BAD);
        for (int house : NO_HOUSE) {
            Check.due("meet of no house", x.meet(house, 0, 0, 0), Check.BAD);
            Check.due("meet with no house", x.meet(0, house, 0, 0), Check.BAD);
        }
        for (int n : new int[] {-1, 21, Integer.MIN_VALUE, Integer.MAX_VALUE}) {
            Check.due("meet in " + n, x.meet(0, 1, n, 0), Check.BAD);
        }
        Check.due("what = 2", x.meet(0, 1, 0, 2), Check.BAD);
        Check.due("what = -1", x.meet(0, 1, 0, -1), Check.BAD);
        Check.due("n = 20", x.meet(1, 2, 20, 0), 17);
    }

    private static void streetsStand() {
        HillHouses x = Check.hillOf("slope 4 9;stone 0 3;stone 2 5;house hut 0 2 1;house hut 0 1 1;house hut 0 0 1;"
            + "house hut 1 8 1;house hut 1 7 1;house hut 2 3 1;");
        int[] streets = {1, 3, 7, 8, 24, 0};
        for (int h = 0; h < streets.length; h++) {
            Check.due("street(" + h + ")", x.street(h), streets[h]);
        }
        for (int house : new int[] {-1, 6, Integer.MIN_VALUE, Integer.MAX_VALUE}) {
            Check.due("street of no house", x.street(house), Check.BAD);
        }
        // A stone in another lane holds none; a gap breaks a street.
        HillHouses y = Check.hillOf("slope 2 9;stone 1 3;stone 0 5;house hut 0 2 1;house hut 0 4 1;");
        Check.due("street(0)", y.street(0), 0);
        Check.due("street(1)", y.street(1), 2);
        HillHouses z = Check.hillOf("slope 1 6;house hut 0 0 1;house hut 0 1 1;house hut 0 2 1;house hut 0 3 1;"
            + "house hut 0 4 1;house hut 0 5 1;");
        Check.due("a street of all", z.street(0), 63);
    }

    private static void stoodIsFound() {
        HillHouses x = Check.hillOf("slope 4 9;stone 0 5;house hut 0 4 1;house inn 1 8 1;house church 2 4 1;house barn 3 4 1;"
            + "house hut 3 0 1;");
        Check.due("hut above a stone in 0", x.stood(0, 0, 0), 16);
        Check.due("hut above a stone in 2", x.stood(0, 0, 2), 4 + 8 + 16);
        Check.due("hut above a stone in 40", x.stood(0, 0, 40), 31);
        Check.due("inn at the stream in 2", x.stood(1, 0, 2), 256 + 128 + 64 + 32 + 16);
        Check.due("church in 3 from an even one", x.stood(2, 0, 3), 4);
        Check.due("church in 3 from an odd one", x.stood(2, 3, 3), 8);
        Check.due("barn, alone: no house is in its way", x.stood(3, 7, 4), 1);
        Check.due("barn, too far", x.stood(3, 7, 5), 0);
        Check.due("hut at the top", x.stood(4, 0, 0), 1);
        Check.due("hut at the top in 1", x.stood(4, 40, 1), 0);
        // Chocked or not now, and whatever the winter is now, is all one.
        x.chock(0, 1);
        x.winter();
        Check.due("chocked", x.stood(0, 0, 2), 4 + 8 + 16);
        // Behind a stone nobody comes by, and on it nobody stood.
        HillHouses y = Check.hillOf("slope 1 20;stone 0 3;house hut 0 5 1;house inn 0 19 1;");
        Check.due("below a stone in 1", y.stood(0, 0, 1), 16);
        Check.due("below a stone in 2", y.stood(0, 0, 2), 0);
        Check.due("below a stone in 40", y.stood(1, 0, 40), (1 << 20) - 16);
    }

    private static void stoodIsRefused() {
        HillHouses x = Check.hillOf(THREE);
        for (int house : NO_HOUSE) {
            Check.due("stood of no house", x.stood(house, 0, 0), Check.BAD);
        }
        for (int n : NO_COUNT) {
            Check.due("stood from winter " + n, x.stood(0, n, 0), Check.BAD);
            Check.due("stood in " + n, x.stood(0, 0, n), Check.BAD);
        }
        Check.due("stood(2, 40, 40)", x.stood(2, 40, 40), 0);
    }

    private static void stolenIsFound() {
        HillHouses x = Check.hillOf("slope 3 9;stone 2 3;house hut 0 0 4;house hut 1 1 5;house hut 2 2 6;");
        Check.rowOf(x, 0, 1, 2, 2);
        Check.due("none is chocked, and none needs be", x.stolen(0), 0);
        x.chock(0, 1);
        x.chock(2, 1);
        Check.due("house 0's", x.stolen(0), 1);
        x.chock(1, 1);
        Check.due("houses 0's and 1's", x.stolen(0), 3);
        Check.rowOf(x, 0, 0, 1, 2);
        Check.due("none", x.stolen(0), 0);
        x.stolen(7);
        Check.due("a set", x.stolen(0), 0);
        Check.due("status of a set", x.status(), 0);
        // House 2's makes no other yards, so it is not of the least set.
        Check.rowOf(x, 1, 0, 2, 2, 77);
        Check.due("items behind count for nothing", x.stolen(1), 2);
        Check.rowOf(x, 1, 0, 2, 3);
        Check.due("on a stone", x.stolen(1), Check.NONE);
        Check.due("status", x.status(), 0);
        Check.rowOf(x, 1, 2, 1, 2);
        Check.due("too far", x.stolen(1), Check.NONE);
        Check.due("chocked", x.count(5), 3);
        Check.due("winters", x.count(3), 0);
        // In an odd winter a church stays without its chock, too.
        HillHouses y = Check.hillOf("slope 1 9;house church 0 0 4;house hut 0 1 1;");
        y.chock(0, 1);
        y.chock(1, 1);
        Check.rowOf(y, 0, 1, 2);
        Check.due("church in winter 0", y.stolen(0), 3);
        y.winter();
        Check.due("church in winter 1", y.stolen(0), Check.NONE);
        Check.rowOf(y, 0, 0, 2);
        Check.due("hut in winter 1", y.stolen(0), 2);
    }

    private static void stolenIsRefused() {
        HillHouses x = new HillHouses();
        Check.due("STATE ahead of BAD", x.stolen(8), Check.STATE);
        Check.due("hill", Check.read(x, THREE), 3);
        for (int row : new int[] {-1, 8, Integer.MIN_VALUE, Integer.MAX_VALUE}) {
            Check.due("stolen of no row", x.stolen(row), Check.BAD);
        }
        Check.due("stolen of a missing row", x.stolen(0), Check.NULL);
        Check.due("status", x.status(), 1);
        Check.rowOf(x, 0, 9, 9);
        Check.due("too few items", x.stolen(0), Check.PLACE);
        Check.due("status", x.status(), 2);
        int[][] noYards = {{9, 2, 3}, {2, -1, 3}, {2, 2, Integer.MIN_VALUE}};
        for (int[] items : noYards) {
            Check.rowOf(x, 0, items);
            x.drop(7);
            Check.due("an item that is no yard", x.stolen(0), Check.BAD);
            Check.due("status stays", x.status(), 1);
        }
        Check.rowOf(x, 0, 2, 2, 3, 99);
        Check.due("stolen", x.stolen(0), 0);
        Check.due("status", x.status(), 0);
    }

    private static void imagesAreKept() {
        HillHouses x = new HillHouses();
        for (int k : new int[] {-1, 2, Integer.MIN_VALUE, Integer.MAX_VALUE}) {
            Check.due("image(" + k + ")", x.image(k), Check.BAD);
            Check.due("restore(" + k + ")", x.restore(k), Check.BAD);
        }
        Check.due("image without a hill", x.image(0), Check.STATE);
        Check.due("restore of none", x.restore(0), Check.STATE);
        Check.due("hill", Check.read(x, THREE), 3);
        x.winter();
        x.haul(2, 0);
        x.chock(1, 1);
        Check.due("image(1)", x.image(1), 1);
        Check.due("acts stay", x.count(4), 3);
        Check.due("restore of none", x.restore(0), Check.STATE);
        x.winter();
        Check.due("image(0)", x.image(0), 1);
        x.haul(1, 2);
        x.chock(0, 1);
        Check.due("hill", Check.read(x, "slope 1 4;house mill 0 0 1;"), 1);
        x.winter();
        Check.due("restore(1)", x.restore(1), 1);
        Check.yards("restored", x, 2, 2, 0);
        Check.due("undo", x.undo(), Check.STATE);
        Check.due("winters", x.count(3), 1);
        Check.due("chocked", x.count(5), 1);
        Check.due("stones", x.count(2), 1);
        Check.due("lent", x.house(0, 4) * 10 + x.house(1, 4), 33);
        Check.due("heavy", x.house(2, 2), 6);
        Check.due("kind", x.kind(0), 3);
        Check.due("lanes", x.yard(2, 8), -2);
        Check.due("restore(0)", x.restore(0), 1);
        Check.yards("restored", x, 4, 2, 1);
        x.winter();
        x.chock(1, 0);
        Check.due("an image can be taken again", x.restore(0), 1);
        Check.yards("restored", x, 4, 2, 1);
        Check.due("chocked", x.house(1, 3), 1);
        x.winter();
        Check.due("image(0) in place of the one before", x.image(0), 1);
        x.winter();
        Check.due("restore(0)", x.restore(0), 1);
        Check.due("winters", x.count(3), 3);
    }
}
