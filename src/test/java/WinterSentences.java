/** What the document says of winters, hauling, chocks and acts, sentence by sentence: promises 9 to 15. */
final class WinterSentences {
    private static final String SIX = "slope 4 9;house hut 0 1 7;house hut 0 2 1;house hut 0 3 20;house hut 0 4 9;"
        + "house hut 0 5 6;house hut 0 6 4;";

    private WinterSentences() {
    }

    static void all() {
        turns();
        rolling();
        endOfTheSlope();
        inTheWay();
        inns();
        churches();
        barns();
        nextWinter();
        hauled();
        hands();
        actsAreKept();
        actsAreForgotten();
        winterIsTold();
        winterIsRefused();
        haulIsTold();
        haulIsRefused();
        chockIsTold();
        chocksAreTold();
        chocksAreRefused();
        undoIsTold();
        houseIsTold();
        yardIsTold();
    }

    private static void turns() {
        Check.says("Terms", "In a WINTER HOUSES, those that are farther down as it begins ahead of others");
        HillHouses x = Check.hillOf("slope 1 9;house hut 0 0 1;house hut 0 1 1;house hut 0 2 1;");
        Check.due("a file, the last by number goes first", x.winter(), 7);
        Check.yards("file", x, 1, 2, 3);
        HillHouses y = Check.hillOf("slope 1 9;house hut 0 2 1;house hut 0 1 1;house hut 0 0 1;");
        Check.due("a file, the first by number goes first", y.winter(), 7);
        Check.yards("file", y, 3, 2, 1);
        HillHouses z = Check.hillOf("slope 1 9;house hut 0 2 1;house hut 0 5 1;house inn 0 0 1;house hut 0 4 1;"
            + "house church 0 1 1;house mill 0 3 1;");
        Check.due("a file of six, not by numbers", z.winter(), 63);
        Check.yards("file of six", z, 3, 6, 1, 5, 2, 4);
        // Which of one yard goes first is never seen: each has a lane of its own.
        Check.says("Terms", "(of one YARD by numbers)");
        HillHouses w = Check.hillOf("slope 4 9;house hut 2 3 1;house inn 0 3 1;house church 3 3 1;house mill 1 3 1;");
        Check.due("all of one yard", w.winter(), 15);
        Check.yards("one yard", w, 4, 5, 4, 4);
    }

    private static void rolling() {
        Check.says("Terms", ", each that is not CHOCKED, ROLL a YARD down their LANE");
        HillHouses x = Check.hillOf("slope 4 9;house hut 1 0 1;house mill 3 2 1;house hut 0 4 1;");
        x.chock(2, 1);
        for (int gone = 1; gone <= 4; gone++) {
            Check.due("winter", x.winter(), 3);
            Check.yards("winter", x, gone, 2 + gone, 4);
        }
        int[] lanes = {1, 3, 0};
        for (int h = 0; h < 3; h++) {
            Check.due("lane of " + h, x.house(h, 0), lanes[h]);
        }
        x.chock(2, 0);
        Check.due("not any more", x.winter(), 7);
        Check.yards("not any more", x, 5, 7, 5);
    }

    private static void endOfTheSlope() {
        Check.says("Terms", ", if that is on the slope,");
        for (int deep : new int[] {4, 5, 19, 20}) {
            int last = deep - 1;
            HillHouses x = Check.hillOf("slope 4 " + deep + ";house hut 0 " + (last - 1) + " 1;house inn 1 " + (last - 1)
                + " 1;house inn 2 " + last + " 1;house mill 3 " + last + " 1;");
            Check.due("winter 0, deep " + deep, x.winter(), 3);
            Check.yards("winter 0", x, last, last, last, last);
            Check.due("winter 1, deep " + deep, x.winter(), 0);
            Check.yards("winter 1", x, last, last, last, last);
        }
    }

    private static void inTheWay() {
        Check.says("Terms", "and no stone, no HOUSE is there");
        HillHouses x = Check.hillOf("slope 3 20;stone 0 5;stone 1 19;stone 2 1;house hut 0 3 1;house hut 1 17 1;"
            + "house hut 2 0 1;house church 0 7 1;house hut 0 6 1;");
        Check.due("winter 0", x.winter(), 0b11011);
        Check.yards("winter 0", x, 4, 18, 0, 8, 7);
        Check.due("winter 1: stones, a church that stays", x.winter(), 0);
        Check.yards("winter 1", x, 4, 18, 0, 8, 7);
        Check.says("Terms", "(as they are by then)");
        HillHouses y = Check.hillOf("slope 1 20;house hut 0 17 1;house inn 0 18 1;house hut 0 16 1;");
        Check.due("each comes where one was", y.winter(), 7);
        Check.yards("moved up", y, 18, 19, 17);
        Check.due("all are down", y.winter(), 0);
        y.chock(1, 1);
        Check.due("all are down", y.winter(), 0);
    }

    private static void inns() {
        Check.says("Terms", "An inn does so twice (both at its turn, one behind the other)");
        HillHouses x = Check.hillOf("slope 4 20;stone 1 2;stone 2 1;house inn 0 0 1;house inn 1 0 1;house inn 2 0 1;"
            + "house hut 3 2 1;house inn 3 0 1;");
        Check.due("inns", x.winter(), 0b11011);
        Check.yards("two, one, none, none over a stone; one behind a hut", x, 2, 1, 0, 3, 2);
        Check.due("inns", x.winter(), 0b11001);
        Check.yards("inns", x, 4, 1, 0, 4, 3);
        HillHouses y = Check.hillOf("slope 1 20;house inn 0 0 1;house inn 0 1 1;house inn 0 2 1;");
        Check.due("inns in a file", y.winter(), 7);
        Check.yards("inns in a file", y, 2, 3, 4);
        y.chock(1, 1);
        Check.due("one chocked", y.winter(), 4);
        Check.yards("one chocked", y, 2, 3, 6);
    }

    private static void churches() {
        Check.says("Terms", "; a church in even WINTERS alone (WINTER as it begins)");
        HillHouses x = Check.hillOf("slope 1 9;house church 0 1 1;");
        for (int gone = 0; gone < 8; gone++) {
            Check.due("winter " + gone, x.winter(), gone % 2 == 0 ? 1 : 0);
            Check.yards("winter " + gone, x, 2 + gone / 2);
        }
        Check.due("winter 8", x.winter(), 1);
        Check.due("undo", x.undo(), 8);
        Check.due("winter 8 anew", x.winter(), 1);
    }

    private static void barns() {
        Check.says("Terms", "; a barn, if no other HOUSE is in its YARD");
        HillHouses x = Check.hillOf("slope 4 20;house barn 0 3 1;house barn 1 3 1;house barn 2 5 1;");
        Check.due("two barns of one yard", x.winter(), 4);
        x.chock(0, 1);
        Check.due("chocked or not", x.winter(), 4);
        Check.yards("barns", x, 3, 3, 7);
        Check.due("haul", x.haul(0, 3), 1);
        x.chock(0, 0);
        Check.due("each alone", x.winter(), 7);
        Check.says("Terms", "(of that number, of any LANE)");
        for (int lane = 1; lane <= 3; lane++) {
            HillHouses y = Check.hillOf("slope 4 20;house barn 0 3 1;house hut " + lane + " 3 1;");
            Check.due("barn and a hut in lane " + lane, y.winter(), 2);
            Check.due("barn behind a hut in lane " + lane, y.winter(), 3);
            HillHouses z = Check.hillOf("slope 4 20;house hut " + lane + " 3 1;house barn 0 3 1;");
            Check.due("barn and a hut ahead of it by number", z.winter(), 1);
        }
        HillHouses stone = Check.hillOf("slope 4 20;stone 1 3;stone 3 3;house barn 0 3 1;house hut 0 2 1;");
        Check.due("no stones, no house of its lane", stone.winter(), 3);
        Check.says("Terms", "as the WINTER begins.");
        HillHouses leaves = Check.hillOf("slope 2 20;house inn 1 3 1;house barn 0 3 1;");
        Check.due("one leaves ahead of its turn", leaves.winter(), 1);
        HillHouses comes = Check.hillOf("slope 2 20;house hut 1 2 1;house barn 0 3 1;");
        Check.due("one comes behind its turn", comes.winter(), 3);
        // One that stands farther down begins there; none can come into a yard ahead of its barns' turns.
        HillHouses goes = Check.hillOf("slope 2 20;house hut 1 4 1;house barn 0 3 1;");
        Check.due("one goes on below", goes.winter(), 3);
    }

    private static void nextWinter() {
        Check.says("Terms", "Then it is the next WINTER.");
        HillHouses x = Check.hillOf("slope 1 4;");
        for (int gone = 0; gone < 50; gone++) {
            Check.due("winters gone", x.count(3), gone);
            Check.due("winter", x.winter(), 0);
        }
        HillHouses y = Check.hillOf("slope 1 4;house church 0 0 1;");
        y.chock(0, 1);
        y.winter();
        y.chock(0, 0);
        Check.due("an odd winter, though nothing rolled in the even one", y.winter(), 0);
        Check.due("an even one", y.winter(), 1);
        Check.says("Terms", "A HOUSE in the last YARD is AT THE STREAM.");
        HillHouses z = Check.hillOf("slope 2 20;house hut 0 19 1;house hut 1 18 1;");
        z.chock(1, 1);
        Check.due("in the last yard", z.stream(0), 0);
        Check.due("in the last but one", z.stream(1), Check.NONE);
        Check.due("a street in the last yard", z.street(0), 1);
        Check.due("none in the last but one", z.street(1), 0);
    }

    private static void hauled() {
        Check.says("Terms", "HAULED: a HOUSE comes to YARD 0 of a LANE, if nothing is there:");
        HillHouses x = Check.hillOf("slope 4 9;stone 2 0;house hut 0 8 5;house inn 1 3 6;house barn 3 0 1;");
        Check.due("to its own lane", x.haul(1, 1), 6);
        Check.due("lane", x.house(1, 0), 1);
        Check.due("yard", x.house(1, 1), 0);
        Check.due("it is there now", x.yard(1, 0), 1);
        Check.due("it was there", x.yard(1, 3), -2);
        Check.due("to another lane", x.haul(1, 0), 6);
        Check.due("lane", x.house(1, 0), 0);
        Check.due("its kind goes with it", x.kind(1), 3);
        Check.due("no winter is gone", x.count(3), 0);
        x.chock(0, 1);
        Check.due("a chocked one", x.haul(0, 1), 5);
        Check.due("is chocked yet", x.house(0, 3), 1);
        Check.due("a stone is there", x.haul(1, 2), Check.STATE);
        Check.due("a house is there", x.haul(1, 3), Check.STATE);
        Check.due("it is there itself", x.haul(1, 0), Check.STATE);
        Check.says("Terms", "it needs as many HANDS as it is HEAVY;");
        for (int heavy = 1; heavy <= 20; heavy++) {
            HillHouses y = Check.hillOf("slope 2 4;house hut 0 3 " + heavy + ";house hut 1 3 20;house barn 1 0 3;");
            Check.due("haul of " + heavy, y.haul(0, 0), heavy);
            Check.due("hands lent", y.house(1, 4) + y.house(2, 4), heavy);
            Check.due("none by itself", y.house(0, 4), 0);
        }
    }

    private static void lent(String when, HillHouses x, int... want) {
        for (int h = 0; h < want.length; h++) {
            Check.due(when + ": hands lent by " + h, x.house(h, 4), want[h]);
        }
    }

    private static void hands() {
        Check.says("Terms", "all other HOUSES LEND them, as alike as can be, the first ones one more.");
        HillHouses x = Check.hillOf(SIX);
        Check.due("7 of five", x.haul(0, 1), 7);
        lent("7 of five", x, 0, 2, 2, 1, 1, 1);
        Check.due("20 of five", x.haul(2, 2), 20);
        lent("20 of five", x, 4, 6, 2, 5, 5, 5);
        Check.due("4 of five", x.haul(5, 3), 4);
        lent("4 of five", x, 5, 7, 3, 6, 5, 5);
        Check.due("1 of five", x.haul(1, 0), 1);
        lent("1 of five", x, 6, 7, 3, 6, 5, 5);
        x.winter();
        x.chock(0, 1);
        x.chock(3, 1);
        Check.due("9 of five, chocked ones too", x.haul(3, 3), 9);
        lent("9 of five", x, 8, 9, 5, 6, 7, 6);
        HillHouses y = Check.hillOf("slope 1 4;house hut 0 3 19;house hut 0 2 20;");
        Check.due("19 of one", y.haul(0, 0), 19);
        lent("19 of one", y, 0, 19);
        y.winter();
        Check.due("20 of one", y.haul(1, 0), 20);
        lent("20 of one", y, 20, 19);
        Check.says("Terms", "All that is divided is cut towards 0.");
        HillHouses z = Check.hillOf("slope 1 9;house hut 0 8 11;house hut 0 7 1;house hut 0 6 1;house hut 0 5 1;");
        Check.due("11 of three", z.haul(0, 0), 11);
        lent("11 of three", z, 0, 4, 4, 3);
        z.winter();
        Check.due("1 of three", z.haul(3, 0), 1);
        lent("1 of three", z, 1, 4, 4, 3);
    }

    private static void actsAreKept() {
        Check.says("Terms", "each can be undone, the latest first;");
        HillHouses x = Check.hillOf("slope 3 9;house hut 0 1 7;house church 1 3 5;house inn 2 2 2;");
        x.winter();
        x.chock(0, 1);
        x.haul(2, 1);
        x.winter();
        x.chock(0, 0);
        Check.yards("ahead of all", x, 2, 4, 2);
        Check.due("undo of not chocked any more", x.undo(), 4);
        Check.due("chocked", x.house(0, 3), 1);
        Check.due("undo of a winter", x.undo(), 3);
        Check.yards("a winter undone", x, 2, 4, 0);
        Check.due("winters", x.count(3), 1);
        lent("a winter undone", x, 1, 1, 0);
        Check.due("undo of a haul", x.undo(), 2);
        Check.yards("a haul undone", x, 2, 4, 4);
        Check.due("its lane", x.house(2, 0), 2);
        lent("a haul undone", x, 0, 0, 0);
        Check.due("undo of chocked", x.undo(), 1);
        Check.due("not chocked", x.house(0, 3), 0);
        Check.due("undo of a winter", x.undo(), 0);
        Check.yards("all undone", x, 1, 3, 2);
        Check.due("winters", x.count(3), 0);
        Check.says("Terms", "also such by which nothing becomes another): a WINTER; HAULED; CHOCKED, or not any more.");
        HillHouses y = Check.hillOf("slope 1 4;stone 0 1;house hut 0 0 1;house hut 0 2 1;house hut 0 3 1;");
        Check.due("a winter", y.winter(), 0);
        Check.due("acts", y.count(4), 1);
        Check.due("not chocked, as it was", y.chock(0, 0), 0);
        Check.due("acts", y.count(4), 2);
        y.chock(0, 1);
        Check.due("chocked, as it was", y.chock(0, 1), 1);
        Check.due("acts", y.count(4), 4);
        Check.due("undo", y.undo(), 3);
        Check.due("chocked yet", y.house(0, 3), 1);
        Check.due("undo", y.undo(), 2);
        Check.due("not chocked", y.house(0, 3), 0);
        Check.due("undo", y.undo(), 1);
        Check.due("undo", y.undo(), 0);
        Check.due("undo of none", y.undo(), Check.STATE);
    }

    private static void actsAreForgotten() {
        Check.says("Terms", "ACTS (24 at most are kept, of more the oldest is forgotten;");
        for (int many : new int[] {23, 24, 25, 47, 48, 49, 60}) {
            HillHouses x = Check.hillOf("slope 1 4;house hut 0 0 1;");
            for (int gone = 1; gone <= many; gone++) {
                x.winter();
                Check.due("acts of " + gone, x.count(4), Math.min(24, gone));
            }
            int kept = Math.min(24, many);
            for (int left = kept - 1; left >= 0; left--) {
                Check.due("undo of " + many, x.undo(), left);
                Check.due("winters", x.count(3), many - kept + left);
            }
            Check.due("undo of a forgotten one", x.undo(), Check.STATE);
            Check.due("winters", x.count(3), many - kept);
        }
        HillHouses y = Check.hillOf(SIX);
        Check.rowOf(y, 0, 5, 4, 3, 2, 1, 0);
        Check.due("haul", y.haul(0, 1), 7);
        for (int gone = 0; gone < 21; gone++) {
            y.winter();
        }
        Check.due("chocks: four of six acts push others out", y.chocks(0, 0, 6), 6);
        Check.due("acts", y.count(4), 24);
        for (int left = 23; left >= 0; left--) {
            Check.due("undo", y.undo(), left);
        }
        Check.due("winters: the haul and three of these are forgotten", y.count(3), 3);
        Check.due("chocked", y.count(5), 0);
        lent("the haul stays", y, 0, 2, 2, 1, 1, 1);
    }

    private static void winterIsTold() {
        Check.says("Promise 9", "A WINTER: HOUSES (bits) that ROLLED.");
        HillHouses x = Check.hillOf("slope 4 9;house inn 0 0 1;house church 0 8 1;house hut 1 1 1;house mill 1 7 1;"
            + "house barn 2 2 1;house hut 3 2 1;");
        Check.due("winter 0", x.winter(), 0b101101);
        Check.due("winter 1", x.winter(), 0b100101);
        Check.due("winter 2", x.winter(), 0b110101);
        Check.due("winters", x.count(3), 3);
        Check.due("acts", x.count(4), 3);
        Check.says("Terms", "Sets are bits.");
        HillHouses y = Check.hillOf("slope 1 20;house hut 0 0 1;house hut 0 3 1;house hut 0 6 1;house hut 0 9 1;"
            + "house hut 0 12 1;house hut 0 15 1;");
        Check.due("all six", y.winter(), 63);
        for (int h = 0; h <= 5; h++) {
            for (int other = 0; other <= 5; other++) {
                y.chock(other, other == h ? 0 : 1);
            }
            Check.due("house " + h + " alone", y.winter(), 1 << h);
        }
        Check.says("Terms", "Numbers go from 0 on.");
        HillHouses z = Check.hillOf("slope 1 4;house hut 0 0 1;");
        Check.due("house 0 in lane 0, yard 0", z.yard(0, 0), 0);
        Check.due("winter 0", z.count(3), 0);
        Check.due("house 0 rolled", z.winter(), 1);
    }

    private static void winterIsRefused() {
        Check.says("Promise 9", "STATE: no HILL");
        HillHouses x = new HillHouses();
        Check.due("winter", x.winter(), Check.STATE);
        Check.due("a faulty hill", Check.read(x, "slope 1 4"), -1000109);
        Check.due("winter", x.winter(), Check.STATE);
        Check.due("winters", x.count(3), 0);
        Check.due("a hill without houses", Check.read(x, "slope 1 4;"), 0);
        Check.due("winter", x.winter(), 0);
        // Only beyond 512 calls, where answers are free, can this one be seen.
        Check.says("Promise 9", "; FULL: 9999 are gone.");
        HillHouses y = Check.hillOf("slope 1 4;house hut 0 0 1;");
        for (int gone = 0; gone < 9998; gone++) {
            y.winter();
        }
        Check.due("the last winter", y.winter(), 0);
        Check.due("one more", y.winter(), Check.FULL);
        Check.due("winters", y.count(3), 9999);
        Check.due("undo", y.undo(), 23);
        Check.due("the last winter anew", y.winter(), 0);
        Check.due("one more", y.winter(), Check.FULL);
    }

    private static void haulIsTold() {
        Check.says("Promise 10", "HAULED to the top of a LANE: HANDS.");
        HillHouses x = Check.hillOf("slope 4 9;house church 0 3 1;house mill 2 8 20;");
        for (int lane = 0; lane <= 3; lane++) {
            Check.due("haul(1, " + lane + ")", x.haul(1, lane), 20);
            Check.due("at the top", x.yard(lane, 0), 1);
            Check.due("an act", x.count(4), lane + 1);
        }
        Check.due("haul(0, 0)", x.haul(0, 0), 1);
    }

    private static void haulIsRefused() {
        Check.says("Promise 10", "BAD;");
        HillHouses x = Check.hillOf("slope 3 9;stone 1 0;house hut 0 0 7;house hut 2 3 7;");
        Check.badOutside("haul of house", 1, h -> x.haul(h, 2));
        Check.badOutside("haul to lane", 2, lane -> x.haul(1, lane));
        Check.due("haul without a hill", new HillHouses().haul(0, 0), Check.BAD);
        Check.says("Promise 10", "STATE: something is there,");
        Check.due("a house", x.haul(1, 0), Check.STATE);
        Check.due("a stone", x.haul(1, 1), Check.STATE);
        Check.due("itself", x.haul(0, 0), Check.STATE);
        Check.due("acts", x.count(4), 0);
        lent("refused", x, 0, 0);
        Check.yards("refused", x, 0, 3);
        Check.says("Promise 10", "or there is no other HOUSE.");
        HillHouses y = Check.hillOf("slope 3 9;house hut 0 1 7;");
        Check.due("no other house", y.haul(0, 2), Check.STATE);
        Check.yards("refused", y, 1);
        Check.due("acts", y.count(4), 0);
        Check.due("one other house is enough", Check.hillOf("slope 1 4;house inn 0 1 7;house hut 0 3 1;").haul(0, 0), 7);
    }

    private static void chockIsTold() {
        Check.says("Promise 11", "CHOCKED (1), or not (0): how it was.");
        HillHouses x = Check.hillOf(SIX);
        for (int h = 0; h <= 5; h++) {
            Check.due("chock(" + h + ", 0)", x.chock(h, 0), 0);
            Check.due("chock(" + h + ", 1)", x.chock(h, 1), 0);
            Check.due("chocked", x.house(h, 3), 1);
            Check.due("chocked in all", x.count(5), h + 1);
            Check.due("chock(" + h + ", 1)", x.chock(h, 1), 1);
        }
        for (int h = 0; h <= 5; h++) {
            Check.due("chock(" + h + ", 0)", x.chock(h, 0), 1);
            Check.due("not chocked", x.house(h, 3), 0);
            Check.due("chocked in all", x.count(5), 5 - h);
        }
        Check.says("Promise 11", "BAD.");
        Check.badOutside("chock of house", 5, h -> x.chock(h, 1));
        Check.badOutside("chock", 1, is -> x.chock(2, is));
        Check.due("chock without a hill", new HillHouses().chock(0, 1), Check.BAD);
        Check.due("chocked in all", x.count(5), 0);
    }

    private static void chocksAreTold() {
        Check.says("Promise 12", "n HOUSES (1 to 6), ITEMS of a ROW from i on, are CHOCKED");
        HillHouses x = Check.hillOf(SIX);
        Check.rowOf(x, 3, 9, 4, 0, 2, 9);
        Check.due("chocks(3, 2, 1)", x.chocks(3, 2, 1), 1);
        Check.due("house 0", x.house(0, 3), 1);
        Check.due("chocked", x.count(5), 1);
        Check.rowOf(x, 4, 0, 1, 2, 3, 4, 5);
        Check.says("Promise 12", "(those that are already, too): how many were not.");
        Check.due("chocks(3, 1, 3)", x.chocks(3, 1, 3), 2);
        Check.due("chocks(4, 0, 6)", x.chocks(4, 0, 6), 3);
        Check.due("chocks(4, 0, 6)", x.chocks(4, 0, 6), 0);
        Check.due("chocked", x.count(5), 6);
        Check.says("Promise 12", "An ACT each.");
        Check.due("acts", x.count(4), 1 + 3 + 6 + 6);
        for (int left = 15; left >= 10; left--) {
            Check.due("undo", x.undo(), left);
            Check.due("chocked", x.count(5), 6);
        }
        int[] chocked = {5, 5, 4, 4, 3, 3, 2, 2, 1, 0};
        for (int left = 9; left >= 0; left--) {
            Check.due("undo", x.undo(), left);
            Check.due("chocked", x.count(5), chocked[9 - left]);
        }
        x.row(5, 0, 40);
        x.set(5, 39, 5);
        Check.due("the last item of bytes", x.chocks(5, 39, 1), 1);
        Check.due("house 5", x.house(5, 3), 1);
        Check.due("one that is told six times", x.chocks(5, 0, 6), 1);
        Check.due("acts", x.count(4), 7);
    }

    private static void chocksAreRefused() {
        Check.says("Promise 12", "BAD: ROW, n;");
        HillHouses x = Check.hillOf("slope 2 9;house hut 0 1 1;house hut 0 2 1;");
        Check.rowOf(x, 0, 0, 1, 2, 0, -1, 0, 1, 0);
        Check.badOutside("chocks of row", 7, row -> x.chocks(row, 0, 1));
        Check.badBelow("chocks, n", 1, n -> x.chocks(0, 0, n));
        Check.badAbove("chocks, n", 6, n -> x.chocks(0, 0, n));
        Check.due("chocks of seven of a missing row", x.chocks(7, 0, 7), Check.BAD);
        Check.says("Promise 12", "STATE: no HILL (ahead of BAD);");
        HillHouses none = new HillHouses();
        Check.rowOf(none, 0, 0);
        for (int row : new int[] {-1, 0, 1, 8}) {
            Check.due("chocks without a hill", none.chocks(row, 9, 7), Check.STATE);
            Check.due("chocks without a hill", none.chocks(row, 0, 1), Check.STATE);
        }
        Check.says("Promise 12", "NULL; PLACE;");
        Check.due("a missing row", x.chocks(1, 0, 1), Check.NULL);
        Check.due("a missing row, no place", x.chocks(1, -1, 6), Check.NULL);
        for (int i : new int[] {-1, 8, Check.LEAST, Check.MOST}) {
            Check.due("chocks from " + i, x.chocks(0, i, 1), Check.PLACE);
        }
        Check.due("chocks beyond the end", x.chocks(0, 3, 6), Check.PLACE);
        Check.due("chocks beyond the end", x.chocks(0, 7, 2), Check.PLACE);
        Check.due("no places, and no houses ahead of them", x.chocks(0, 4, 5), Check.PLACE);
        Check.says("Promise 12", "then BAD: an ITEM that is no HOUSE.");
        Check.due("the third", x.chocks(0, 0, 3), Check.BAD);
        Check.due("below 0", x.chocks(0, 3, 2), Check.BAD);
        Check.due("none was chocked", x.count(5), 0);
        Check.due("no acts", x.count(4), 0);
        Check.due("up to the end", x.chocks(0, 5, 3), 2);
        HillHouses empty = Check.hillOf("slope 1 4;");
        Check.rowOf(empty, 0, 0);
        Check.due("a hill without houses", empty.chocks(0, 0, 1), Check.BAD);
    }

    private static void undoIsTold() {
        Check.says("Promise 13", "The latest ACT is undone: how many can be undone yet.");
        HillHouses x = Check.hillOf("slope 2 9;house hut 0 1 3;house hut 0 2 1;");
        x.winter();
        x.haul(0, 1);
        Check.due("undo", x.undo(), 1);
        Check.yards("the haul undone, not the winter", x, 2, 3);
        Check.due("count(4)", x.count(4), 1);
        x.chock(1, 1);
        Check.due("undo of what came since", x.undo(), 1);
        Check.due("chocked", x.count(5), 0);
        Check.due("undo", x.undo(), 0);
        Check.yards("the winter undone", x, 1, 2);
        Check.says("Promise 13", "STATE: none.");
        Check.due("undo", x.undo(), Check.STATE);
        Check.due("refusals are no acts", x.haul(0, 2) + x.chock(2, 1), 2 * Check.BAD);
        Check.due("undo", x.undo(), Check.STATE);
        Check.due("undo of a new object", new HillHouses().undo(), Check.STATE);
    }

    private static void houseIsTold() {
        Check.says("Promise 14", "Of a HOUSE: 0 LANE, 1 YARD, 2 HEAVY, 3 whether CHOCKED (1, 0), 4 HANDS that it LENT in all,");
        HillHouses x = Check.hillOf("slope 4 20;stone 2 17;house hut 3 19 20;house inn 2 12 1;house mill 0 0 7;");
        int[][] told = {{3, 19, 20, 0, 0, 0}, {2, 12, 1, 0, 0, 4}, {0, 0, 7, 0, 0, 19}};
        housesAre(x, told);
        x.chock(1, 1);
        x.haul(0, 1);
        x.haul(0, 3);
        int[][] then = {{3, 0, 20, 0, 0, 19}, {2, 12, 1, 1, 20, 4}, {0, 0, 7, 0, 20, 19}};
        housesAre(x, then);
        Check.says("Promise 14", "5 VIEW.");
        HillHouses y = Check.hillOf("slope 2 9;stone 0 5;stone 1 2;house hut 0 0 1;house hut 0 2 1;house hut 0 6 1;"
            + "house hut 0 4 1;house hut 1 8 1;");
        int[] views = {1, 1, 2, 0, 0};
        for (int h = 0; h < views.length; h++) {
            Check.due("view of " + h, y.house(h, 5), views[h]);
        }
        Check.says("Terms", "VIEW of a HOUSE: how many YARDS next below it in its LANE have no stone, no HOUSE, up to the first "
            + "that has.");
        HillHouses z = Check.hillOf("slope 4 20;stone 1 10;stone 3 5;house hut 0 0 1;house hut 1 1 1;house hut 2 0 1;"
            + "house hut 2 18 1;house hut 3 4 1;house hut 3 6 1;");
        int[] seen = {19, 8, 17, 1, 0, 13};
        for (int h = 0; h < seen.length; h++) {
            Check.due("view of " + h, z.house(h, 5), seen[h]);
        }
        Check.says("Promise 14", "BAD.");
        Check.badOutside("house", 5, h -> z.house(h, 0));
        Check.badOutside("house(0), what", 5, what -> z.house(0, what));
        Check.due("house without a hill", new HillHouses().house(0, 0), Check.BAD);
    }

    private static void housesAre(HillHouses x, int[][] want) {
        for (int h = 0; h < want.length; h++) {
            for (int what = 0; what <= 5; what++) {
                Check.due("house(" + h + ", " + what + ")", x.house(h, what), want[h][what]);
            }
        }
    }

    private static void yardIsTold() {
        Check.says("Promise 15", "What is in a YARD of a LANE: a HOUSE; -1: a stone; -2: nothing.");
        HillHouses x = Check.hillOf("slope 3 5;stone 0 4;stone 2 0;house hut 2 4 1;house hut 0 0 1;house hut 1 2 1;");
        int[][] want = {{1, -2, -2, -2, -1}, {-2, -2, 2, -2, -2}, {-1, -2, -2, -2, 0}};
        for (int lane = 0; lane < 3; lane++) {
            for (int yard = 0; yard < 5; yard++) {
                Check.due("yard(" + lane + ", " + yard + ")", x.yard(lane, yard), want[lane][yard]);
            }
        }
        Check.says("Promise 15", "BAD.");
        Check.badOutside("yard, lane", 2, lane -> x.yard(lane, 0));
        Check.badOutside("yard", 4, yard -> x.yard(0, yard));
        Check.due("yard without a hill", new HillHouses().yard(0, 0), Check.BAD);
    }
}
