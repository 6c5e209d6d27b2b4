/** What the document says of what is foretold, where one stood, stolen chocks, images: promises 16 to 24. */
final class ForetoldSentences {
    /**
     * Barn 0 waits for church 2, which waits for barn 3, which waits for churches 4 and 1; behind winter 3 barn 0 rolls
     * in each odd winter: into yard 17 in winter 37, into yard 18, where church 2 is held, in winter 39.
     */
    private static final String SLOW = "slope 4 20;house barn 1 0 1;house church 0 0 1;house church 2 0 1;"
        + "house barn 2 1 1;house church 3 1 1;";
    private static final String MIXED = "slope 4 20;stone 1 15;stone 2 9;house inn 0 2 5;house church 1 4 6;"
        + "house barn 2 2 7;house mill 3 4 8;house hut 1 0 9;house barn 0 7 10;";

    private static final String SIX_APART = "slope 1 20;house hut 0 0 1;house hut 0 3 1;house hut 0 6 1;house hut 0 9 1;"
        + "house hut 0 12 1;house hut 0 15 1;";

    private ForetoldSentences() {
    }

    static void all() {
        nothingChanges();
        aheadIsForetold();
        streamIsForetold();
        besideIsForetold();
        meetIsForetold();
        meetIsLeast();
        meetIsRefused();
        streetsStand();
        streetsDoNot();
        stoodIsFound();
        stoodIsRefused();
        stolenIsFound();
        stolenIsRefused();
        imageIsKept();
        imageIsRestored();
    }

    private static void nothingChanges() {
        Check.says("Terms", "FORETOLD (nothing changes).");
        HillHouses x = State.rich();
        for (int h = 0; h < 6; h++) {
            x.ahead(h, 40, 1);
            x.stream(h);
            x.street(h);
            x.stood(h, 3, 4);
            x.beside(h, (h + 1) % 6, 17);
            x.meet(h, (h + 1) % 6, 9, 0);
        }
        Check.alike("what is foretold", State.of(x), State.of(State.rich()));
        HillHouses y = State.rich();
        Check.due("set", y.set(0, 0, 4), 4);
        y.stolen(0);
        HillHouses z = State.rich();
        Check.due("set", z.set(0, 0, 4), 4);
        Check.alike("what was stolen", State.of(y), State.of(z));
    }

    private static void aheadIsForetold() {
        Check.says("Terms", "AHEAD by n WINTERS (0 to 40): LANE, YARD of a HOUSE.");
        for (int before = 0; before <= 3; before++) {
            HillHouses x = mixed(before);
            HillHouses played = mixed(before);
            for (int n = 0; n <= 40; n++) {
                for (int h = n % 2; h < 6; h += 2) {
                    Check.due("ahead(" + h + ", " + n + ", 0)", x.ahead(h, n, 0), played.house(h, 0));
                    Check.due("ahead(" + h + ", " + n + ", 1)", x.ahead(h, n, 1), played.house(h, 1));
                }
                played.winter();
            }
        }
        Check.says("Promise 16", "AHEAD: LANE (what = 0), YARD (1).");
        HillHouses x = Check.hillOf("slope 4 20;house hut 3 2 1;house church 2 5 1;");
        x.winter();
        int[] lanes = {3, 2};
        for (int h = 0; h <= 1; h++) {
            Check.due("lane of " + h, x.ahead(h, 5, 0), lanes[h]);
        }
        Check.due("hut", x.ahead(0, 5, 1), 8);
        Check.due("church", x.ahead(1, 5, 1), 8);
        HillHouses y = slow(0);
        Check.due("by 37", y.ahead(0, 37, 1), 16);
        Check.due("by 39", y.ahead(0, 39, 1), 17);
        Check.due("by 40", y.ahead(0, 40, 1), 18);
        Check.says("Promise 16", "BAD.");
        Check.badOutside("ahead of house", 1, h -> x.ahead(h, 0, 0));
        Check.badOutside("ahead by", 40, n -> x.ahead(0, n, 0));
        Check.badOutside("ahead, what", 1, what -> x.ahead(0, 0, what));
        Check.due("ahead without a hill", new HillHouses().ahead(0, 0, 0), Check.BAD);
    }

    private static HillHouses mixed(int winters) {
        HillHouses x = Check.hillOf(MIXED);
        x.chock(5, 1);
        for (int gone = 0; gone < winters; gone++) {
            x.winter();
        }
        return x;
    }

    private static HillHouses slow(int winters) {
        HillHouses x = Check.hillOf(SLOW);
        for (int gone = 0; gone < winters; gone++) {
            x.winter();
        }
        return x;
    }

    private static void streamIsForetold() {
        Check.says("Terms", "STREAM: behind how many WINTERS (0 to 40) a HOUSE is AT THE STREAM; NONE.");
        // None comes to the stream later than this: a barn that waits for a church in each yard, from an odd winter on.
        HillHouses last = Check.hillOf("slope 2 20;house barn 0 0 1;house church 1 0 1;");
        last.chock(0, 1);
        last.chock(1, 1);
        last.winter();
        last.chock(0, 0);
        last.chock(1, 0);
        for (int left = 39; left >= 0; left--) {
            Check.due("stream of the barn", last.stream(0), left);
            Check.due("stream of the church", last.stream(1), Math.max(0, left - 1));
            last.winter();
        }
        Check.due("there since a winter", last.stream(0), 0);
        last.chock(0, 1);
        Check.due("there, and chocked", last.stream(0), 0);
        Check.due("one that is held above the stream", slow(0).stream(0), Check.NONE);
        Check.due("one that is held above the stream", slow(20).stream(0), Check.NONE);
        Check.says("Promise 17", "STREAM; NONE.");
        HillHouses y = Check.hillOf("slope 4 9;stone 2 8;house hut 0 0 1;house inn 1 1 1;house church 3 3 1;"
            + "house inn 2 0 1;house mill 0 8 1;house hut 0 7 1;");
        int[] streams = {Check.NONE, 4, 9, Check.NONE, 0, Check.NONE};
        for (int h = 0; h < streams.length; h++) {
            Check.due("stream(" + h + ")", y.stream(h), streams[h]);
        }
        y.chock(1, 1);
        Check.due("a chocked one", y.stream(1), Check.NONE);
        y.winter();
        Check.due("church from an odd winter", y.stream(2), 8);
        Check.says("Promise 17", "BAD.");
        Check.badOutside("stream", 5, y::stream);
        Check.due("stream without a hill", new HillHouses().stream(0), Check.BAD);
    }

    private static void besideIsForetold() {
        Check.says("Terms", "BESIDE are two HOUSES in one YARD of LANES next to one another.");
        HillHouses x = Check.hillOf("slope 4 9;house hut 0 3 1;house hut 1 3 1;house hut 2 3 1;house hut 3 3 1;"
            + "house hut 0 2 1;house hut 2 4 1;");
        for (int a = 0; a <= 3; a++) {
            for (int b = 0; b <= 3; b++) {
                if (a != b) {
                    Check.due("lanes " + a + ", " + b, x.beside(a, b, 0), Math.abs(a - b) == 1 ? 1 : 0);
                }
            }
        }
        Check.due("a yard above", x.beside(4, 1, 0), 0);
        Check.due("a yard below", x.beside(1, 5, 0), 0);
        Check.due("of one lane", x.beside(0, 4, 0), 0);
        Check.says("Promise 18", "Whether two HOUSES are BESIDE behind n WINTERS (0 to 40): 1, 0.");
        HillHouses y = Check.hillOf("slope 3 20;house inn 0 0 1;house hut 1 4 1;house church 2 8 1;");
        int[] first = {0, 0, 0, 0, 1, 0};
        for (int n = 0; n < first.length; n++) {
            Check.due("inn and hut behind " + n, y.beside(0, 1, n), first[n]);
            Check.due("hut and inn behind " + n, y.beside(1, 0, n), first[n]);
        }
        Check.due("hut and church behind 7", y.beside(1, 2, 7), 0);
        Check.due("hut and church behind 8", y.beside(1, 2, 8), 1);
        Check.due("hut and church behind 9", y.beside(1, 2, 9), 1);
        Check.due("hut and church behind 10", y.beside(1, 2, 10), 0);
        Check.due("behind 40", y.beside(0, 1, 40), 1);
        HillHouses z = slow(0);
        Check.due("the slow barn behind 39", z.beside(0, 2, 39), 0);
        Check.due("the slow barn behind 40", z.beside(0, 2, 40), 1);
        Check.says("Promise 18", "BAD: alike, too.");
        for (int h = 0; h <= 2; h++) {
            Check.due("beside itself", y.beside(h, h, 0), Check.BAD);
        }
        Check.badOutside("beside", 2, h -> y.beside(h, 0, 0));
        Check.badOutside("beside house", 2, h -> y.beside(0, h, 0));
        Check.badOutside("beside behind", 40, n -> y.beside(0, 1, n));
        Check.due("beside without a hill", new HillHouses().beside(0, 1, 0), Check.BAD);
    }

    /** Whether a and b are beside when they are chocked in the first x, y of n winters, and then as chocked (bits) tells. */
    private static boolean playedBeside(String text, int chocked, int[] ab, int[] xy, int n) {
        HillHouses x = Check.hillOf(text);
        for (int h = 0; h < x.count(1); h++) {
            x.chock(h, chocked >> h & 1);
        }
        for (int gone = 0; gone < n; gone++) {
            for (int k = 0; k < 2; k++) {
                x.chock(ab[k], gone < xy[k] ? 1 : chocked >> ab[k] & 1);
            }
            x.winter();
        }
        return x.house(ab[0], 1) == x.house(ab[1], 1) && Math.abs(x.house(ab[0], 0) - x.house(ab[1], 0)) == 1;
    }

    private static void meetAsPlayed(String text, int chocked, int a, int b, int n) {
        int both = Check.NONE;
        int first = Check.NONE;
        for (int x = 0; x <= n; x++) {
            for (int y = 0; y <= n; y++) {
                boolean isLess = both == Check.NONE || x + y < both;
                if (isLess && playedBeside(text, chocked, new int[] {a, b}, new int[] {x, y}, n)) {
                    both = x + y;
                    first = x;
                }
            }
        }
        HillHouses asked = Check.hillOf(text);
        for (int h = 0; h < asked.count(1); h++) {
            asked.chock(h, chocked >> h & 1);
        }
        String call = text + " meet(" + a + ", " + b + ", " + n;
        Check.due(call + ", 0)", asked.meet(a, b, n, 0), both);
        Check.due(call + ", 1)", asked.meet(a, b, n, 1), first);
    }

    private static void meet(HillHouses x, int a, int b, int n, int both, int first) {
        Check.due("meet(" + a + ", " + b + ", " + n + ", 0)", x.meet(a, b, n, 0), both);
        Check.due("meet(" + a + ", " + b + ", " + n + ", 1)", x.meet(a, b, n, 1), first);
    }

    private static void meetIsForetold() {
        Check.says("Terms", "MEET of two HOUSES a, b in n WINTERS (0 to 20):");
        HillHouses x = Check.hillOf("slope 2 20;house hut 0 1 1;house hut 1 0 1;");
        meet(x, 0, 1, 0, Check.NONE, Check.NONE);
        for (int n = 1; n <= 18; n++) {
            meet(x, 0, 1, n, 1, 1);
        }
        meet(x, 0, 1, 19, 0, 0);
        meet(x, 0, 1, 20, 0, 0);
        HillHouses now = Check.hillOf("slope 2 20;house hut 0 1 1;house hut 1 1 1;");
        meet(now, 0, 1, 0, 0, 0);
        Check.says("Terms", "a is CHOCKED in the first x of these, b in the first y (0 to n)");
        for (int n = 0; n <= 5; n++) {
            for (int a = 0; a <= 3; a++) {
                meetAsPlayed(MIXED, 0, a, (a + 1) % 4, n);
                meetAsPlayed(MIXED, 0, (a + 1) % 4, a, n);
            }
        }
        // An inn that is freed goes too far, the hut one yard: both are kept in all of the winters.
        HillHouses all = Check.hillOf("slope 2 20;stone 1 2;house inn 0 0 1;house hut 1 0 1;");
        meet(all, 0, 1, 1, 2, 1);
        meet(all, 0, 1, 20, 40, 20);
        meet(all, 1, 0, 20, 40, 20);
        Check.says("Terms", ", behind that each is as now:");
        for (int chocked = 0; chocked < 4; chocked++) {
            for (int n = 1; n <= 5; n++) {
                meetAsPlayed("slope 2 9;house hut 0 2 1;house inn 1 0 1;", chocked, 0, 1, n);
            }
        }
        HillHouses kept = Check.hillOf("slope 2 9;house hut 0 0 1;house hut 1 2 1;");
        kept.chock(1, 1);
        meet(kept, 0, 1, 2, 0, 0);
        meet(kept, 0, 1, 3, 1, 1);
        meet(kept, 1, 0, 3, 1, 0);
        kept.chock(0, 1);
        meet(kept, 0, 1, 20, Check.NONE, Check.NONE);
    }

    private static void meetIsLeast() {
        Check.says("Terms", "the least x and y together by which they are BESIDE behind n WINTERS");
        HillHouses x = Check.hillOf("slope 2 20;house hut 0 5 1;house hut 1 2 1;");
        meet(x, 0, 1, 2, Check.NONE, Check.NONE);
        meet(x, 0, 1, 3, 3, 3);
        meet(x, 1, 0, 3, 3, 0);
        meet(x, 0, 1, 16, 3, 3);
        meet(x, 0, 1, 17, 0, 0);
        // Beside in winter 2 is not beside behind 3.
        HillHouses y = Check.hillOf("slope 2 20;house inn 0 0 1;house hut 1 2 1;");
        meet(y, 0, 1, 2, 0, 0);
        meet(y, 0, 1, 3, 2, 1);
        meet(y, 0, 1, 4, 1, 1);
        Check.says("Terms", ", of several the least x:");
        // By 0 and 1, or by 1 and 0: else the barns keep one another in one yard.
        String barns = "slope 3 5;house hut 0 1 1;house barn 1 0 1;house mill 0 2 1;house barn 2 2 1;";
        HillHouses z = Check.hillOf(barns);
        meet(z, 0, 1, 8, 1, 0);
        meet(z, 1, 0, 8, 1, 0);
        meetAsPlayed(barns, 0, 0, 1, 8);
        // By 2 and 2, by 3 and 1, by 4 and 0.
        String three = "slope 3 8;house mill 0 0 1;house barn 1 2 1;house church 0 3 1;house barn 2 3 1;";
        meet(Check.hillOf(three), 0, 1, 7, 4, 2);
        meetAsPlayed(three, 0, 0, 1, 7);
        meetAsPlayed(three, 0, 1, 0, 7);
        Check.says("Terms", ": both together; x; NONE.");
        HillHouses w = Check.hillOf("slope 2 20;house inn 0 1 1;house hut 1 4 1;");
        meet(w, 0, 1, 2, 1, 0);
        meet(w, 1, 0, 2, 1, 1);
        meet(w, 0, 1, 4, 2, 1);
        meet(w, 0, 1, 1, Check.NONE, Check.NONE);
        HillHouses far = Check.hillOf("slope 3 20;house hut 0 2 1;house hut 2 2 1;house hut 0 9 1;");
        meet(far, 0, 1, 20, Check.NONE, Check.NONE);
        meet(far, 0, 2, 20, Check.NONE, Check.NONE);
    }

    private static void meetIsRefused() {
        Check.says("Promise 19", "MEET: both together (what = 0), x (1); NONE.");
        HillHouses x = Check.hillOf("slope 2 20;house hut 0 6 1;house hut 1 2 1;house inn 1 0 1;");
        Check.due("both together", x.meet(0, 1, 5, 0), 4);
        Check.due("x", x.meet(0, 1, 5, 1), 4);
        Check.due("x of the other", x.meet(1, 0, 5, 1), 0);
        Check.due("none", x.meet(0, 1, 3, 0), Check.NONE);
        Check.due("none", x.meet(0, 1, 3, 1), Check.NONE);
        Check.says("Promise 19", "BAD: alike, too.");
        for (int h = 0; h <= 2; h++) {
            Check.due("meet itself", x.meet(h, h, 5, 0), Check.BAD);
        }
        Check.badOutside("meet of", 2, h -> x.meet(h, 0, 0, 0));
        Check.badOutside("meet with", 2, h -> x.meet(0, h, 0, 0));
        Check.badOutside("meet in", 20, n -> x.meet(0, 1, n, 0));
        Check.badOutside("meet, what", 1, what -> x.meet(0, 1, 0, what));
        Check.due("meet without a hill", new HillHouses().meet(0, 1, 0, 0), Check.BAD);
    }

    private static void streets(HillHouses x, int... want) {
        for (int h = 0; h < want.length; h++) {
            Check.due("street(" + h + ")", x.street(h), want[h]);
        }
    }

    private static void streetsStand() {
        Check.says("Terms", "STREET: if each HOUSE, beginning with a told one, has the next one in the YARD below it");
        streets(Check.hillOf("slope 2 9;stone 0 6;house hut 0 5 1;house inn 0 3 1;house hut 0 4 1;house hut 0 1 1;"),
            1, 7, 5, 0);
        Check.says("Terms", ", down to one that has a stone there");
        streets(Check.hillOf("slope 4 9;stone 0 1;stone 1 8;stone 2 4;house hut 0 0 1;house hut 1 7 1;house hut 2 3 1;"
            + "house hut 2 2 1;house hut 2 5 1;house hut 3 3 1;"), 1, 2, 4, 12, 0, 0);
        Check.says("Terms", ", or is AT THE STREAM: these (bits)");
        streets(Check.hillOf("slope 4 9;house hut 0 8 1;house hut 1 7 1;house hut 1 8 1;house hut 2 7 1;"), 1, 6, 4, 0);
        streets(Check.hillOf("slope 1 6;house hut 0 5 1;house hut 0 4 1;house hut 0 3 1;house hut 0 2 1;"
            + "house hut 0 1 1;house hut 0 0 1;"), 1, 3, 7, 15, 31, 63);
    }

    private static void streetsDoNot() {
        Check.says("Terms", "; else 0.");
        // A gap, a stone of another lane, a stone above, a house that is beside.
        streets(Check.hillOf("slope 3 9;stone 1 4;stone 0 2;stone 2 8;house hut 0 3 1;house hut 0 4 1;house hut 0 6 1;"
            + "house hut 2 6 1;house hut 1 8 1;house hut 2 5 1;"), 0, 0, 0, 0, 16, 0);
        streets(Check.hillOf("slope 1 20;house hut 0 0 1;house hut 0 1 1;house hut 0 2 1;house hut 0 3 1;"
            + "house hut 0 4 1;house hut 0 5 1;"), 0, 0, 0, 0, 0, 0);
        Check.says("Promise 20", "STREET.");
        HillHouses x = Check.hillOf("slope 1 5;house inn 0 0 1;house hut 0 2 1;");
        streets(x, 0, 0);
        x.winter();
        streets(x, 0, 0);
        x.winter();
        streets(x, 3, 2);
        Check.says("Promise 20", "BAD.");
        Check.badOutside("street", 1, x::street);
        Check.due("street without a hill", new HillHouses().street(0), Check.BAD);
    }

    /** The yards from which a house alone, let go in winter w, is in a yard behind n more. */
    private static int playedStood(String slope, int stones, String sort, int deep, int[] wn, int yard) {
        int yards = 0;
        for (int from = 0; from < deep; from++) {
            if ((stones >> from & 1) == 1) {
                continue;
            }
            HillHouses x = Check.hillOf(slope + "house " + sort + " 1 " + from + " 1;");
            x.chock(0, 1);
            for (int gone = 0; gone < wn[0]; gone++) {
                x.winter();
            }
            x.chock(0, 0);
            for (int gone = 0; gone < wn[1]; gone++) {
                x.winter();
            }
            yards |= x.house(0, 1) == yard ? 1 << from : 0;
        }
        return yards;
    }

    private static void stoodIsFound() {
        Check.says("Terms", "comes to where it is now in n WINTERS (0 to 40), the first being WINTER w (0 to 40).");
        String[] sorts = {"church", "barn", "inn", "mill", "hut"};
        String slope = "slope 3 12;stone 1 7;stone 0 2;stone 2 3;";
        int[][] whens = {{0, 0}, {1, 0}, {0, 1}, {1, 1}, {0, 5}, {1, 5}, {2, 3}, {39, 3}, {40, 3}, {40, 1}, {0, 40},
            {1, 40}, {40, 40}};
        for (String sort : sorts) {
            for (int yard : new int[] {0, 3, 6, 8, 11}) {
                HillHouses x = Check.hillOf(slope + "house " + sort + " 1 " + yard + " 1;house hut 0 6 1;");
                for (int[] wn : whens) {
                    Check.due(sort + " in " + yard + ": stood(0, " + wn[0] + ", " + wn[1] + ")",
                        x.stood(0, wn[0], wn[1]), playedStood(slope, 1 << 7, sort, 12, wn, yard));
                }
            }
        }
        Check.says("Terms", "STOOD: YARDS (bits) of its LANE from which a HOUSE");
        HillHouses y = Check.hillOf("slope 2 20;stone 0 10;house hut 0 9 1;house inn 1 19 1;");
        Check.due("from itself alone", y.stood(0, 0, 0), 1 << 9);
        Check.due("from one above, too, held by the stone", y.stood(0, 0, 1), 3 << 8);
        Check.due("from all above the stone", y.stood(0, 0, 40), (1 << 10) - 1);
        Check.due("its lane has no stone", y.stood(1, 0, 40), (1 << 20) - 1);
        Check.due("stood(1, 0, 2)", y.stood(1, 0, 2), 0b11111 << 15);
        Check.says("Terms", ", not CHOCKED, alone on the slope with its stones,");
        HillHouses z = Check.hillOf("slope 2 20;stone 0 3;stone 1 0;house hut 0 6 1;house hut 0 5 1;house barn 1 5 1;"
            + "house church 0 7 1;");
        Check.due("no house is in its way", z.stood(0, 0, 2), 1 << 4);
        z.chock(0, 1);
        Check.due("chocked now", z.stood(0, 0, 2), 1 << 4);
        Check.due("none comes by a stone, none stood on it", z.stood(0, 0, 3), 0);
        Check.due("a barn is alone", z.stood(2, 1, 4), 1 << 1);
        Check.due("from a stone's own yard", z.stood(2, 1, 5), 0);
        z.winter();
        Check.due("whatever winter is to come", z.stood(3, 0, 1), 1 << 7);
        Check.due("whatever winter is to come", z.stood(3, 1, 1), 1 << 8);
    }

    private static void stoodIsRefused() {
        Check.says("Promise 21", "STOOD.");
        HillHouses x = Check.hillOf("slope 2 9;house hut 0 5 1;house church 1 5 1;");
        Check.due("hut", x.stood(0, 40, 4), 1 << 1);
        Check.due("church from an even winter", x.stood(1, 40, 3), 1 << 3);
        Check.due("church from an odd winter", x.stood(1, 39, 3), 1 << 4);
        Check.due("from none", x.stood(0, 0, 6), 0);
        Check.says("Promise 21", "BAD.");
        Check.badOutside("stood of house", 1, h -> x.stood(h, 0, 0));
        Check.badOutside("stood from winter", 40, w -> x.stood(0, w, 0));
        Check.badOutside("stood in", 40, n -> x.stood(0, 0, n));
        Check.due("stood without a hill", new HillHouses().stood(0, 0, 0), Check.BAD);
    }

    private static void stolen(HillHouses x, int want, int... yards) {
        Check.rowOf(x, 0, yards);
        Check.due("stolen", x.stolen(0), want);
        Check.due("status", x.status(), 0);
    }

    private static HillHouses chocked(String text, int houses) {
        HillHouses x = Check.hillOf(text);
        for (int h = 0; h < x.count(1); h++) {
            x.chock(h, houses >> h & 1);
        }
        return x;
    }

    private static void stolenIsFound() {
        String text = "slope 4 9;stone 2 3;house hut 0 0 1;house inn 1 4 1;house hut 2 2 1;house church 3 5 1;";
        Check.says("Terms", "STOLEN: a row tells the YARD of each HOUSE behind the WINTER that is to come:");
        stolen(Check.hillOf(text), 0, 1, 6, 2, 6);
        stolen(Check.hillOf(text), Check.NONE, 0, 6, 2, 6);
        stolen(Check.hillOf(text), Check.NONE, 1, 6, 2, 5);
        HillHouses odd = Check.hillOf(text);
        odd.winter();
        stolen(odd, 0, 2, 8, 2, 6);
        Check.says("Terms", "the least set (as bits, the least number)");
        HillHouses all = chocked(text, 15);
        stolen(all, 0, 0, 4, 2, 5);
        stolen(all, 1, 1, 4, 2, 5);
        stolen(all, 2, 0, 6, 2, 5);
        stolen(all, 8, 0, 4, 2, 6);
        stolen(all, 11, 1, 6, 2, 6);
        stolen(chocked(SIX_APART, 63), 63, 1, 4, 7, 10, 13, 16);
        stolen(chocked(SIX_APART, 63), 32, 0, 3, 6, 9, 12, 16);
        Check.says("Terms", "of HOUSES that are CHOCKED now, without whose chocks it comes so; NONE.");
        HillHouses some = chocked(text, 9);
        stolen(some, 0, 0, 6, 2, 5);
        stolen(some, 9, 1, 6, 2, 6);
        stolen(some, Check.NONE, 1, 4, 2, 6);
        stolen(some, Check.NONE, 1, 5, 2, 6);
        stolen(some, Check.NONE, 1, 6, 3, 6);
        some.winter();
        stolen(some, Check.NONE, 1, 8, 2, 6);
        stolen(some, 1, 1, 8, 2, 5);
        // One that is kept holds those behind it.
        HillHouses file = chocked("slope 1 9;house hut 0 2 1;house hut 0 1 1;house hut 0 0 1;", 3);
        stolen(file, 3, 3, 2, 1);
        stolen(file, 1, 3, 1, 0);
        stolen(file, Check.NONE, 2, 2, 1);
        Check.says("Promise 22", "STOLEN, as many ITEMS as there are HOUSES, of a ROW from its beginning on; NONE.");
        stolen(file, 1, 3, 1, 0, 99, -1, Check.MOST);
        HillHouses empty = Check.hillOf("slope 1 4;");
        Check.due("a row of none", empty.row(0, 1, 0), 0);
        Check.due("a hill without houses", empty.stolen(0), 0);
        Check.due("a row of bytes", file.row(1, 0, 3), 3);
        file.set(1, 0, 3);
        file.set(1, 1, 2);
        file.set(1, 2, 1);
        Check.due("stolen(1)", file.stolen(1), 3);
    }

    private static void stolenIsRefused() {
        Check.says("Promise 22", "BAD: ROW;");
        HillHouses x = Check.hillOf("slope 2 9;house hut 0 1 1;house hut 1 2 1;house hut 0 5 1;");
        Check.badOutside("stolen", 7, x::stolen);
        Check.says("Promise 22", "STATE: no HILL (ahead of BAD);");
        HillHouses none = new HillHouses();
        Check.rowOf(none, 0, 0, 0);
        for (int row : new int[] {-1, 0, 1, 8}) {
            Check.due("stolen(" + row + ") without a hill", none.stolen(row), Check.STATE);
        }
        Check.says("Promise 22", "NULL; PLACE;");
        Check.due("a missing row", x.stolen(3), Check.NULL);
        Check.due("status", x.status(), 1);
        for (int many = 0; many <= 2; many++) {
            Check.due("row", x.row(0, 2, many), many);
            Check.due("too few items", x.stolen(0), Check.PLACE);
            Check.due("status", x.status(), 2);
        }
        Check.due("row", x.row(0, 2, 2), 2);
        Check.due("set", x.set(0, 0, 9), 9);
        Check.due("too few items, no yards", x.stolen(0), Check.PLACE);
        Check.says("Promise 22", "then BAD: an ITEM that is no YARD.");
        for (int no : new int[] {-1, 9, 20, Check.LEAST, Check.MOST}) {
            for (int at = 0; at < 3; at++) {
                int[] yards = {2, 3, 6};
                yards[at] = no;
                Check.rowOf(x, 0, yards);
                Check.due("stolen of " + no, x.stolen(0), Check.BAD);
            }
        }
        stolen(x, Check.NONE, 2, 3, 8);
        stolen(x, 0, 2, 3, 6);
    }

    private static void imageIsKept() {
        Check.says("Promise 23", "An IMAGE (0, 1) is kept of the HILL: 1.");
        HillHouses x = Check.hillOf("slope 2 9;stone 1 8;house hut 0 1 3;house church 1 2 4;");
        Check.due("image(0)", x.image(0), 1);
        x.winter();
        Check.due("image(1)", x.image(1), 1);
        x.winter();
        Check.due("acts stay", x.count(4), 2);
        Check.yards("nothing else changes", x, 3, 3);
        Check.due("restore(0)", x.restore(0), 1);
        Check.yards("image 0", x, 1, 2);
        Check.due("restore(1)", x.restore(1), 1);
        Check.yards("image 1", x, 2, 3);
        x.winter();
        Check.due("image(0) in place of the one before", x.image(0), 1);
        x.winter();
        Check.due("restore(0)", x.restore(0), 1);
        Check.yards("image 0 anew", x, 3, 3);
        Check.says("Promise 23", "BAD; STATE: no HILL.");
        Check.badOutside("image", 1, x::image);
        HillHouses none = new HillHouses();
        Check.badOutside("image without a hill", 1, none::image);
        Check.due("image(0) without a hill", none.image(0), Check.STATE);
        Check.due("image(1) without a hill", none.image(1), Check.STATE);
        Check.due("restore(0)", none.restore(0), Check.STATE);
        Check.due("a hill without houses", Check.read(none, "slope 1 4;"), 0);
        Check.due("image(1)", none.image(1), 1);
    }

    private static void imageIsRestored() {
        Check.says("Promise 24", "The HILL is as an IMAGE kept it");
        HillHouses x = State.rich();
        String kept = State.of(x);
        HillHouses y = State.rich();
        Check.due("image", y.image(1), 1);
        y.winter();
        y.chock(0, 1);
        Check.due("haul", y.haul(1, 1), 5);
        y.chock(4, 1);
        // Its tape is read: another hill, of one lane less.
        Check.due("hill", y.hill(), 0);
        Check.due("restore", y.restore(1), 1);
        for (int h = 0; h < 6; h++) {
            StringBuilder s = new StringBuilder();
            for (int what = 0; what <= 5; what++) {
                s.append(' ').append(y.house(h, what));
            }
            boolean is = kept.contains(" house " + y.kind(h) + s);
            Check.due("house " + h + " is as it was:" + s, is ? 1 : 0, 1);
        }
        Check.due("houses", y.count(1), 6);
        Check.due("stones", y.count(2), 2);
        Check.due("winters", y.count(3), 2);
        Check.due("chocked", y.count(5), 2);
        Check.due("last place", y.yard(2, 7), 5);
        Check.due("a lane more", y.yard(3, 7), Check.BAD);
        Check.due("a yard more", y.yard(2, 8), Check.BAD);
        y.winter();
        Check.due("it can be taken again", y.restore(1), 1);
        Check.due("winters", y.count(3), 2);
        Check.due("rows stay", y.count(0), 3);
        Check.due("the tape stays as it is", y.count(6), 0);
        Check.due("the trace stays", y.trace(0), 24);
        Check.due("the fault stays", y.fault(), 1);
        Check.due("status stays", y.status(), 1);
        Check.says("Promise 24", "(no ACT can be undone then): 1.");
        y.winter();
        Check.due("acts", y.count(4), 1);
        Check.due("restore", y.restore(0), 1);
        Check.due("acts", y.count(4), 0);
        Check.due("undo", y.undo(), Check.STATE);
        Check.says("Promise 24", "BAD; STATE: none was kept.");
        Check.badOutside("restore", 1, y::restore);
        HillHouses z = Check.hillOf("slope 1 4;house hut 0 1 1;");
        Check.badOutside("restore, none kept", 1, z::restore);
        z.winter();
        Check.due("restore(0)", z.restore(0), Check.STATE);
        Check.due("restore(1)", z.restore(1), Check.STATE);
        z.image(1);
        z.winter();
        Check.due("restore(0)", z.restore(0), Check.STATE);
        Check.yards("refused", z, 3);
        Check.due("acts stay", z.count(4), 2);
        Check.due("restore(1)", z.restore(1), 1);
        Check.yards("restored", z, 2);
    }
}
