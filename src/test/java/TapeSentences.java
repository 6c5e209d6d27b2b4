/** What the document says of the tape, its texts and their faults, sentence by sentence: promises 6 to 8. */
final class TapeSentences {
    private static final String SIX = "slope 2 9;house hut 0 0 1;house hut 0 1 1;house hut 0 2 1;house hut 0 3 1;"
        + "house hut 0 4 1;house hut 0 5 1;";
    private static final String EIGHT = "slope 1 4;" + "stone 0 0;".repeat(8);

    private TapeSentences() {
    }

    static void all() {
        tapeIsFed();
        tapeIsFull();
        tokens();
        blanks();
        hillInOrder();
        slope();
        stones();
        houses();
        housesHaveRoom();
        hillStandsAnew();
        firstTokenIsTold();
        leastFaultIsTold();
        tokensThatCannotStand();
        numbersNotAsTold();
        noMoreRoom();
        hillIsRead();
        hillStays();
        faultIsTold();
    }

    private static void tapeIsFed() {
        Check.says("Promise 6", "The lowest n bytes of w (1 to 8), the highest of them first, come behind the tape");
        byte[] text = "slope 3 7;stone 2 6;stone 0 1;house hut 1 2 9;".getBytes();
        for (int n = 1; n <= 8; n++) {
            HillHouses x = new HillHouses();
            for (int at = 0; at < text.length; at += n) {
                // What is left out of the word is of ones, so that it would be seen on the tape.
                long w = -1;
                int many = Math.min(n, text.length - at);
                for (int k = 0; k < many; k++) {
                    w = w << 8 | text[at + k];
                }
                Check.due("feed of " + many, x.feed(w, many), at + many);
            }
            Check.due("hill, fed by " + n, x.hill(), 1);
            Check.due("house", x.yard(1, 2), 0);
            Check.due("stones", x.yard(2, 6) + x.yard(0, 1), -2);
        }
        Check.says("Promise 6", ": how many it has. BAD");
        HillHouses x = new HillHouses();
        for (int n = 1; n <= 8; n++) {
            Check.due("feed of " + n, x.feed(Long.MIN_VALUE, n), n * (n + 1) / 2);
            Check.due("bytes", x.count(6), n * (n + 1) / 2);
        }
        Check.says("Promise 6", "BAD: n;");
        Check.badBelow("feed", 1, n -> x.feed(32, n));
        Check.badAbove("feed", 8, n -> x.feed(32, n));
        Check.due("bytes", x.count(6), 36);
    }

    private static void tapeIsFull() {
        Check.says("Promise 6", "FULL: none comes.");
        HillHouses x = new HillHouses();
        Check.feed(x, EIGHT + " ".repeat(400 - EIGHT.length() - 7));
        Check.due("feed of 8", x.feed(-1, 8), Check.FULL);
        Check.due("bytes", x.count(6), 393);
        Check.due("feed of 7", x.feed(0x20_20_20_20_20_20_20L, 7), 400);
        for (int n = 1; n <= 8; n++) {
            Check.due("feed of " + n, x.feed(-1, n), Check.FULL);
        }
        Check.due("bytes", x.count(6), 400);
        Check.due("hill", x.hill(), 0);
        Check.due("feed of 8 to an empty tape", x.feed(-1, 8), 8);
        Check.says("Terms", "TEXTS: THE TAPE has at most 400 bytes");
        Check.reads(" ".repeat(390) + "slope 1 4;", 0);
        Check.reads("slope 1 4;" + "\n".repeat(374) + "house hut 0 0 1;", 1);
        Check.faults("slope 1 4;" + "\n".repeat(375) + "house hut 0 0 1", 400, 1);
    }

    private static void tokens() {
        Check.says("Terms", "TOKENS: NAMES (letters a to z)");
        Check.faults("slopea 1 4;", 0, 1);
        Check.faults("slopez 1 4;", 0, 1);
        Check.faults("slope` 1 4;", 5, 1);
        Check.faults("slope{ 1 4;", 5, 1);
        Check.faults("sLope 1 4;", 0, 1);
        Check.faults("slopeA 1 4;", 5, 1);
        Check.faults("slopeZ 1 4;", 5, 1);
        Check.faults("slope\u00e9 1 4;", 5, 1);
        Check.faults("slop e 1 4;", 0, 1);
        Check.says("Terms", "NUMBERS (figures, 3 at most)");
        Check.reads("slope 1 9;stone 0 0;", 0);
        Check.reads("slope 001 009;stone 000 008;", 0);
        Check.faults("slope 0001 9;", 6, 1);
        Check.faults("slope 1/9;", 7, 1);
        Check.faults("slope 1:9;", 7, 1);
        Check.faults("slope 1 1 0;", 8, 2);
        Check.faults("slope +1 4;", 6, 1);
        Check.faults("slope -1 4;", 6, 1);
        Check.says("Terms", "SIGNS ;");
        for (char sign : ":<,.!\"'(/\u00bb\u0000\u00ff".toCharArray()) {
            Check.faults("slope 1 4" + sign, 9, 1);
        }
        Check.faults("slope 1 4;;", 10, 1);
    }

    private static void blanks() {
        Check.says("Terms", "bytes 32 and 10 ahead of, between, behind these, as many as wanted");
        Check.reads(" slope 1 4;", 0);
        Check.reads("\nslope 1 4;", 0);
        Check.reads("\n\n  \n slope \n\n 1\n \n4 \n\n; \n \n stone\n0 \n 1 ;\n\nhouse\n\nhut\n0\n0\n1\n;\n \n\n", 1);
        Check.reads("slope 1 4;" + " ".repeat(390), 0);
        for (char none : new char[] {0, 9, 11, 12, 13, 31, 33, 42, 127, 138, 160}) {
            Check.faults("slope 1 4;" + none, 10, 1);
            Check.faults(none + "slope 1 4;", 0, 1);
            Check.faults("slope" + none + "1 4;", 5, 1);
        }
        Check.says("Terms", "(none is needed where one ends without)");
        Check.reads("slope1 4;stone0 1;house inn0 0 1;house barn0 2 20;", 2);
        Check.faults("slope14;", 5, 2);
        Check.faults("slope1 4stone", 8, 1);
        Check.faults("slopestone", 0, 1);
        Check.faults("slope 1 4;househut 0 0 1;", 10, 1);
    }

    private static void hillInOrder() {
        Check.says("Terms", "hill: slope { stone } { house }.");
        Check.reads("slope 1 4;", 0);
        Check.reads("slope 1 4;stone 0 0;", 0);
        Check.reads("slope 1 4;house hut 0 0 1;", 1);
        Check.reads("slope 1 4;stone 0 0;stone 0 1;house hut 0 2 1;house hut 0 3 1;", 2);
        Check.faults("stone 0 0;", 0, 1);
        Check.faults("house hut 0 0 1;", 0, 1);
        Check.faults("hill slope 1 4;", 0, 1);
        Check.faults("slope 1 4;slope 1 4;", 10, 1);
        Check.faults("slope 1 4;stone 0 0;slope 1 4;", 20, 1);
        Check.faults("slope 1 4;house hut 0 0 1;stone 0 1;", 26, 1);
        Check.faults("slope 1 4;house hut 0 0 1;slope 1 4;", 26, 1);
        Check.faults("slope 1 4;1", 10, 1);
    }

    private static void slope() {
        Check.says("Terms", "slope: 'slope' LANES DEEP ';'");
        Check.faults("stope 1 4;", 0, 1);
        Check.faults("elope 1 4;", 0, 1);
        Check.faults("slops 1 4;", 0, 1);
        Check.faults("slope ;", 6, 1);
        Check.faults("slope 1;", 7, 1);
        Check.faults("slope 1 4 5;", 10, 1);
        Check.faults("slope 1 4 stone", 10, 1);
        HillHouses x = Check.hillOf("slope 4 5;");
        Check.due("last place", x.yard(3, 4), -2);
        Check.due("a lane more", x.yard(4, 3), Check.BAD);
        Check.due("a yard more", x.yard(3, 5), Check.BAD);
        Check.says("Terms", "(1 to 4; 4 to 20)");
        for (int lanes = 0; lanes <= 5; lanes++) {
            for (int deep = 3; deep <= 21; deep++) {
                String text = "slope " + lanes + " " + deep + ";";
                if (lanes < 1 || lanes > 4) {
                    Check.faults(text, 6, 2);
                } else if (deep < 4 || deep > 20) {
                    Check.faults(text, 8, 2);
                } else {
                    Check.due("last place of " + text, Check.hillOf(text).yard(lanes - 1, deep - 1), -2);
                }
            }
        }
        Check.faults("slope 999 4;", 6, 2);
        Check.faults("slope 1 999;", 8, 2);
        Check.faults("slope 1 0;", 8, 2);
    }

    private static void stones() {
        Check.says("Terms", "stone: 'stone' LANE YARD ';'");
        Check.faults("slope 4 9;stoned 0 0;", 10, 1);
        Check.faults("slope 4 9;atone 0 0;", 10, 1);
        Check.faults("slope 4 9;stony 0 0;", 10, 1);
        Check.faults("slope 4 9;stone ;", 16, 1);
        Check.faults("slope 4 9;stone 0;", 17, 1);
        Check.faults("slope 4 9;stone 0 0 0;", 20, 1);
        Check.faults("slope 4 9;stone 0 0 stone", 20, 1);
        Check.faults("slope 4 9;stone 4 0;", 16, 2);
        Check.faults("slope 1 9;stone 1 0;", 16, 2);
        HillHouses x = Check.hillOf("slope 4 9;stone 1 3;stone 3 0;");
        Check.due("lane, then yard", x.yard(1, 3), -1);
        Check.due("yard, then lane", x.yard(3, 1), -2);
        Check.due("last lane", x.yard(3, 0), -1);
        Check.due("stones", x.count(2), 2);
        Check.says("Terms", "(YARDS 0, the top, to DEEP less 1");
        for (int deep : new int[] {4, 9, 20}) {
            String text = "slope 1 " + deep + ";";
            HillHouses y = Check.hillOf(text + "stone 0 0;stone 0 " + (deep - 1) + ";house hut 0 1 1;");
            Check.due("at the top", y.yard(0, 0), -1);
            Check.due("at the stream", y.yard(0, deep - 1), -1);
            Check.due("away from the top", y.winter(), 1);
            Check.due("in yard 2", y.yard(0, 2), 0);
            Check.faults(text + "stone 0 " + deep + ";", text.length() + 8, 2);
        }
        Check.faults("slope 1 9;stone 0 999;", 18, 2);
        Check.says("Terms", "; 8 told at most)");
        Check.reads(EIGHT, 0);
        Check.reads("slope 1 20;stone 0 0;stone 0 1;stone 0 2;stone 0 3;stone 0 4;stone 0 5;stone 0 6;stone 0 7;", 0);
        Check.faults(EIGHT + "stone 0 0;", 90, 3);
        Check.faults(EIGHT + "stone 0 1;", 90, 3);
    }

    private static void houses() {
        Check.says("Terms", "house: 'house' SORT LANE YARD HEAVY ';'");
        Check.faults("slope 4 9;houses hut 0 0 1;", 10, 1);
        Check.faults("slope 4 9;mouse hut 0 0 1;", 10, 1);
        Check.faults("slope 4 9;hours hut 0 0 1;", 10, 1);
        Check.faults("slope 4 9;house 0 0 1;", 16, 1);
        Check.faults("slope 4 9;house hut;", 19, 1);
        Check.faults("slope 4 9;house hut 0;", 21, 1);
        Check.faults("slope 4 9;house hut 0 0;", 23, 1);
        Check.faults("slope 4 9;house hut 0 0 1 1;", 26, 1);
        Check.faults("slope 4 9;house hut 0 0 1 house", 26, 1);
        Check.faults("slope 4 9;house hut 4 0 1;", 20, 2);
        Check.faults("slope 4 9;house hut 0 9 1;", 22, 2);
        HillHouses x = Check.hillOf("slope 4 9;house hut 1 2 3;house hut 3 8 20;");
        int[] first = {1, 2, 3};
        int[] second = {3, 8, 20};
        for (int what = 0; what <= 2; what++) {
            Check.due("house(0, " + what + ")", x.house(0, what), first[what]);
            Check.due("house(1, " + what + ")", x.house(1, what), second[what]);
        }
        Check.says("Terms", "(SORT: 'church' | 'inn' | 'mill' | 'hut' | 'barn';");
        String[] sorts = {"church", "barn", "inn", "mill", "hut"};
        for (int k = 0; k < sorts.length; k++) {
            Check.due(sorts[k], Check.hillOf("slope 1 4;house " + sorts[k] + " 0 0 1;").kind(0), k + 1);
            Check.faults("slope 1 4;house " + sorts[k] + "s 0 0 1;", 16, 1);
            Check.faults("slope 1 4;house " + sorts[k].substring(1) + " 0 0 1;", 16, 1);
            Check.faults("slope 1 4;house z" + sorts[k].substring(1) + " 0 0 1;", 16, 1);
            Check.faults("slope 1 4;house " + sorts[k].replaceAll(".$", "z") + " 0 0 1;", 16, 1);
            Check.faults("slope 1 4;house " + sorts[k].replaceAll(".$", "") + " 0 0 1;", 16, 1);
            Check.faults("slope 1 4;house " + sorts[k].toUpperCase() + " 0 0 1;", 16, 1);
        }
        for (String none : new String[] {"house", "stone", "slope", "pub", "h", ";", "1"}) {
            Check.faults("slope 1 4;house " + none + " 0 0 1;", 16, 1);
        }
    }

    private static void housesHaveRoom() {
        Check.says("Terms", "a LANE and YARD with no stone, no house;");
        Check.faults("slope 2 9;stone 1 3;house hut 1 3 1;", 32, 2);
        Check.faults("slope 2 9;house inn 1 3 1;house hut 1 3 1;", 38, 2);
        Check.faults("slope 2 9;stone 0 0;house hut 0 0 1;", 32, 2);
        Check.reads("slope 2 9;stone 1 3;house hut 0 3 1;house inn 1 2 1;house mill 1 4 1;house barn 0 4 1;", 4);
        Check.says("Terms", "1 to 20; HOUSES");
        for (int heavy : new int[] {0, 21, 100, 999}) {
            Check.faults("slope 1 4;house hut 0 0 " + heavy + ";", 24, 2);
        }
        for (int heavy : new int[] {1, 2, 19, 20}) {
            Check.due("heavy", Check.hillOf("slope 1 4;house hut 0 0 " + heavy + ";").house(0, 2), heavy);
        }
        Check.says("Terms", "HOUSES 0 .. 5, 6 at most)");
        HillHouses x = Check.hillOf(SIX);
        Check.due("houses", x.count(1), 6);
        for (int h = 0; h <= 5; h++) {
            Check.due("house " + h, x.house(h, 1), h);
        }
        Check.badOutside("house", 5, h -> x.house(h, 1));
        Check.faults(SIX + "house hut 0 6 1;", SIX.length(), 3);
    }

    /** A hill on which a church and a barn rolled, one was hauled, one chocked, all foretold: it is to be set back. */
    private static HillHouses used() {
        HillHouses x = Check.hillOf("slope 3 9;stone 2 2;house church 0 0 4;house barn 1 1 6;house inn 2 7 1;");
        x.winter();
        x.chock(0, 1);
        Check.due("haul", x.haul(1, 1), 6);
        Check.due("image", x.image(1), 1);
        Check.due("foretold", x.ahead(0, 5, 1), 1);
        x.row(5, 1, 7);
        return x;
    }

    private static void hillStandsAnew() {
        Check.says("Terms", "A HILL that is read stands in place of the one before (none at first)");
        HillHouses x = new HillHouses();
        Check.due("none at first", x.winter(), Check.STATE);
        Check.due("the first", Check.read(x, "slope 3 9;stone 2 2;house church 0 0 4;house barn 1 1 6;"), 2);
        Check.due("another", Check.read(x, "slope 2 5;house hut 1 3 2;"), 1);
        Check.due("houses", x.count(1), 1);
        Check.due("stones", x.count(2), 0);
        Check.due("kind", x.kind(0), 5);
        Check.due("no lane 2", x.yard(2, 0), Check.BAD);
        Check.due("no yard 5", x.yard(0, 5), Check.BAD);
        Check.due("no house 1", x.house(1, 0), Check.BAD);
        Check.due("without houses", Check.read(x, "slope 1 4;"), 0);
        Check.due("no house 0", x.house(0, 0), Check.BAD);
        Check.due("a winter of none", x.winter(), 0);
        String again = "slope 3 9;house church 0 0 4;house barn 1 0 6;";
        Check.says("Terms", ": WINTER 0 is to come");
        HillHouses y = used();
        Check.due("hill", Check.read(y, again), 2);
        Check.due("winters", y.count(3), 0);
        Check.due("a church rolls", y.winter() & 1, 1);
        Check.says("Terms", ", nobody is CHOCKED");
        HillHouses z = used();
        Check.due("hill", Check.read(z, again), 2);
        Check.due("chocked", z.count(5), 0);
        Check.due("church", z.house(0, 3), 0);
        Check.says("Terms", ", no HANDS were lent");
        Check.due("church", z.house(0, 4), 0);
        Check.due("barn", z.house(1, 4), 0);
        Check.says("Terms", ", no ACT can be undone;");
        Check.due("acts", z.count(4), 0);
        Check.due("undo", z.undo(), Check.STATE);
        Check.says("Terms", "; IMAGES and ROWS stay.");
        Check.due("restore(0)", z.restore(0), Check.STATE);
        Check.due("restore(1)", z.restore(1), 1);
        Check.yards("restored", z, 1, 0, 8);
        Check.due("drop", z.drop(5), 7);
    }

    private static void firstTokenIsTold() {
        Check.says("Terms", "FAULTS, the first TOKEN that has one (its first byte)");
        Check.faults("slope 9 99;", 6, 2);
        Check.faults("slope 9 9999", 6, 2);
        Check.faults("slope 9999 9", 6, 1);
        Check.faults("slope  1 99999 zebra", 9, 1);
        Check.faults("slope 1 4;stone 7 zebra", 16, 2);
        Check.faults("slope 1 4;zebra 7;", 10, 1);
        Check.faults("slope 1 4;house hut 0 7 99;", 22, 2);
        Check.faults("slope 1 4;house zebra 9 9 99;", 16, 1);
        Check.faults("slope 1 4;stone 0 1;house hut 0 1 0", 32, 2);
        Check.faults(EIGHT + "stone 9 9;", 90, 3);
        Check.faults("slope 1 4;stone 0 4" + ";stone 0 0".repeat(9), 18, 2);
    }

    private static void leastFaultIsTold() {
        Check.says("Terms", ", of one TOKEN the least:");
        // Four figures are none, whatever they tell; a number where none can stand is no number not as told.
        Check.faults("slope 9999 4;", 6, 1);
        Check.faults("slope 1 4;stone 0 1;house hut 0 0001 1;", 32, 1);
        Check.faults("slope 1 4 99;", 10, 1);
        Check.faults("slope 1 4;house 99 0 0 1;", 16, 1);
        // A ninth stone, a seventh house where none can stand.
        Check.faults(EIGHT + "house hut 0 1 1;stone 0 0;", 106, 1);
        Check.faults(EIGHT + "house stone", 96, 1);
        Check.faults(SIX.replaceAll(";$", " ") + "house", SIX.length(), 1);
        Check.faults(EIGHT.replaceAll(";$", " ") + "stone", 90, 1);
    }

    private static void tokensThatCannotStand() {
        Check.says("Terms", "1 it cannot stand there, or is none");
        Check.faults("1 slope 4;", 0, 1);
        Check.faults("; slope 1 4;", 0, 1);
        Check.faults("slope slope 4;", 6, 1);
        Check.faults("slope ; 4;", 6, 1);
        Check.faults("slope 1 ;", 8, 1);
        Check.faults("slope 1 4 house", 10, 1);
        Check.faults("slope 1 4;stone ;", 16, 1);
        Check.faults("slope 1 4;stone 0 hut;", 18, 1);
        Check.faults("slope 1 4;stone 0 0 0", 20, 1);
        Check.faults("slope 1 4;house ;", 16, 1);
        Check.faults("slope 1 4;house hut ;", 20, 1);
        Check.faults("slope 1 4;house hut 0 hut", 22, 1);
        Check.faults("slope 1 4;house hut 0 0 ;", 24, 1);
        Check.faults("slope 1 4;house hut 0 0 1 hut", 26, 1);
        Check.faults("?slope 1 4;", 0, 1);
        Check.faults("slope 1 ?4;", 8, 1);
        Check.faults("slope 1 4?;", 9, 1);
        Check.faults("slope 1 4;?", 10, 1);
        Check.says("Terms", "(a run of four figures or more, at its first;");
        Check.faults("slope 0004 9;", 6, 1);
        Check.faults("slope 1  0004;", 9, 1);
        Check.faults("slope 1 00004;", 8, 1);
        Check.faults("slope 4294967297 4;", 6, 1);
        Check.faults("slope 1 4;0000", 10, 1);
        Check.faults("slope 1 4;stone 0 0001", 18, 1);
        Check.faults("slope" + "1".repeat(395), 5, 1);
        Check.says("Terms", "the end: how many bytes there are);");
        Check.faults("", 0, 1);
        Check.faults(" ", 1, 1);
        Check.faults("\n  \n", 4, 1);
        Check.faults("slope", 5, 1);
        Check.faults("slope 1", 7, 1);
        Check.faults("slope 1 4", 9, 1);
        Check.faults("slope 1 4 \n ", 12, 1);
        Check.faults("slope 1 4;stone", 15, 1);
        Check.faults("slope 1 4;house hut 0 0 1", 25, 1);
        Check.faults("slope 1 4" + " ".repeat(391), 400, 1);
        Check.faults(" ".repeat(400), 400, 1);
    }

    private static void numbersNotAsTold() {
        Check.says("Terms", "2 a NUMBER that is not as told");
        Check.faults("slope 0 4;", 6, 2);
        Check.faults("slope 1 21;", 8, 2);
        Check.faults("slope 2 4;stone 2 0;", 16, 2);
        Check.faults("slope 2 4;stone 1 4;", 18, 2);
        Check.faults("slope 2 4;house hut 2 0 1;", 20, 2);
        Check.faults("slope 2 4;house hut 1 4 1;", 22, 2);
        Check.faults("slope 2 4;house hut 1 3 21;", 24, 2);
        Check.says("Terms", "(the YARD of a house that has no room there)");
        Check.faults("slope 2 4;stone 1 3;house hut 1 3 21;", 32, 2);
        Check.faults("slope 2 4;house hut 0  03 1;house hut 0  03 0;", 41, 2);
    }

    private static void noMoreRoom() {
        Check.says("Terms", "3 a stone, a house more than there is room for (its word).");
        Check.faults(EIGHT + "stone 0 0;", 90, 3);
        Check.faults(EIGHT + "\n stone", 92, 3);
        Check.faults(EIGHT + "stone 9999 !", 90, 3);
        Check.faults(EIGHT + "stones 0 0;", 90, 1);
        Check.faults(SIX + "house hut 1 0 1;", SIX.length(), 3);
        Check.faults(SIX + "  house", SIX.length() + 2, 3);
        Check.faults(SIX + "hut", SIX.length(), 1);
        Check.faults(SIX + "stone 1 1;", SIX.length(), 1);
    }

    private static void hillIsRead() {
        Check.says("Promise 7", "The tape, empty then, is read: how many HOUSES there are.");
        HillHouses x = new HillHouses();
        String text = "slope 1 9;";
        for (int many = 0; many <= 6; many++) {
            Check.due("hill", Check.read(x, text), many);
            Check.due("bytes", x.count(6), 0);
            text += "house hut 0 " + many + " 1;";
        }
        Check.due("hill with a fault", Check.read(x, "slope 1 4;!"), -1000110);
        Check.due("bytes", x.count(6), 0);
        Check.due("the tape is empty now", x.hill(), -1000100);
        Check.due("hill", Check.read(x, "slope 1 4;"), 0);
        // Nothing of an earlier tape is read behind the end: no letter, figure, blank, sign.
        String[] earlier = {"slopes 1 4;", "slope 1 444;", "slope 1 4   ;", "slope 1 4;"};
        String[] later = {"slope", "slope 1 4", "slope 1 4", "slope 1 4"};
        for (int k = 0; k < earlier.length; k++) {
            Check.read(x, earlier[k]);
            Check.due("'" + later[k] + "' behind '" + earlier[k] + "'", Check.read(x, later[k]),
                -1000100 - later[k].length());
            Check.due("its fault", x.fault(), 1);
        }
        Check.says("Promise 7", "-1000100 less the place of a FAULT:");
        Check.due("at 0", Check.read(x, "!"), -1000100);
        Check.due("at 1", Check.read(x, " !"), -1000101);
        Check.due("at 399", Check.read(x, "slope 1 4;" + " ".repeat(389) + "!"), -1000499);
        Check.due("at 400", Check.read(x, "slope 1 4" + " ".repeat(391)), -1000500);
    }

    private static void hillStays() {
        Check.says("Promise 7", "all but the tape, and what fault() tells, stays.");
        String[] faulty = {"", "zebra", "slope 4 20", "slope 1 4;1", "slope 4 20;stone 0 0;house inn 0 1 1;zebra"};
        String stays = State.of(State.richButForTape());
        for (String text : faulty) {
            HillHouses x = State.richButForTape();
            Check.due("hill '" + text + "'", Check.read(x, text) < -1000099 ? 1 : 0, 1);
            Check.due("fault", x.fault(), 1);
            Check.alike("hill '" + text + "'", State.of(x), stays);
        }
    }

    private static void faultIsTold() {
        Check.says("Promise 8", "The number of the latest FAULT;");
        HillHouses x = Check.hillOf("slope 1 4;");
        String[] texts = {"slope 5 4;", EIGHT + "stone 0 0;", "zebra", EIGHT + "stone 0 0;", "slope 1 4;", "slope 1 3;"};
        int[] faults = {2, 3, 1, 3, 3, 2};
        for (int k = 0; k < texts.length; k++) {
            Check.read(x, texts[k]);
            Check.due("fault behind '" + texts[k] + "'", x.fault(), faults[k]);
            Check.due("and again", x.fault(), faults[k]);
        }
        Check.says("Promise 8", "0 before one.");
        HillHouses y = new HillHouses();
        Check.due("fault of a new object", y.fault(), 0);
        Check.due("feed", y.feed(33, 0), Check.BAD);
        Check.due("winter", y.winter(), Check.STATE);
        Check.due("hill", Check.read(y, "slope 1 4;"), 0);
        Check.due("fault behind none", y.fault(), 0);
    }
}
