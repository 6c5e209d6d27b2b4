/** Promises 6 to 8: the tape, its texts and their faults. */
public final class TapeTest {
    public static void main(String[] args) {
        tapeIsFed();
        tapeIsFull();
        hillsAreRead();
        tokensThatCannotStand();
        numbersNotAsTold();
        noMoreRoom();
        faultChangesNothing();
        hillStandsAnew();
        Check.end("TapeTest");
    }

    private static void tapeIsFed() {
        HillHouses x = new HillHouses();
        Check.due("feed of 0", x.feed(1, 0), Check.BAD);
        Check.due("feed of 9", x.feed(1, 9), Check.BAD);
        Check.due("feed of -1", x.feed(1, -1), Check.BAD);
        Check.due("feed of least", x.feed(1, Integer.MIN_VALUE), Check.BAD);
        // Of ten letters only the lowest six are wanted, the highest of these first.
        Check.due("feed 'slop'", x.feed(0x7878_7878_736C_6F70L, 4), 4);
        Check.due("feed 'e1 4;'", x.feed(0xFF_FF_FF_65_31_20_34_3BL, 5), 9);
        Check.due("count(6)", x.count(6), 9);
        Check.due("hill", x.hill(), 0);
        Check.due("count(6)", x.count(6), 0);
        Check.due("yard", x.yard(0, 3), -2);
    }

    private static void tapeIsFull() {
        HillHouses x = new HillHouses();
        Check.feed(x, "slope 1 4;" + " ".repeat(383));
        Check.due("feed of 8 more", x.feed(0, 8), Check.FULL);
        Check.due("none came", x.count(6), 393);
        Check.due("feed of 7 more", x.feed(0x20_20_20_20_20_20_20L, 7), 400);
        Check.due("feed of 1 more", x.feed(32, 1), Check.FULL);
        Check.due("BAD ahead of FULL", x.feed(32, 9), Check.BAD);
        Check.due("hill", x.hill(), 0);
        Check.due("feed", x.feed(32, 1), 1);
    }

    private static void hillsAreRead() {
        Check.reads("slope 1 4;", 0);
        Check.reads("slope1 4;", 0);
        Check.reads("\n slope\n4 \n 20 \n;\n", 0);
        Check.reads("slope 001 004;stone 000 003;house hut 0 02 020;", 1);
        Check.reads("slope 2 5;stone1 4;stone1 4;house inn0 0 1;house mill1 0 20;", 2);
        Check.reads("slope 4 20;" + "stone 3 19;".repeat(8) + "house church 0 0 1;house inn 1 0 2;house mill 2 0 3;"
            + "house hut 3 0 4;house barn 0 1 5;house hut 0 2 6;", 6);
        HillHouses x = Check.hillOf("slope 3 7;stone 2 6;stone 0 0;stone 2 6;house barn 0 1 20;house church 2 5 1;");
        Check.due("houses", x.count(1), 2);
        Check.due("unlike stones", x.count(2), 2);
        Check.due("lane", x.house(1, 0), 2);
        Check.due("yard", x.house(1, 1), 5);
        Check.due("heavy", x.house(0, 2), 20);
        Check.due("kind", x.kind(0), 2);
        Check.due("kind", x.kind(1), 1);
        Check.due("stone", x.yard(2, 6), -1);
        Check.due("last lane and yard", x.yard(2, 6) + x.yard(0, 6), -3);
        Check.due("no lane 3", x.yard(3, 0), Check.BAD);
        Check.due("no yard 7", x.yard(0, 7), Check.BAD);
    }

    private static void tokensThatCannotStand() {
        Check.faults("", 0, 1);
        Check.faults("  \n", 3, 1);
        Check.faults("slop", 0, 1);
        Check.faults("slopex 1 4;", 0, 1);
        Check.faults("slopez 1 4;", 0, 1);
        Check.faults("slopea 1 4;", 0, 1);
        Check.faults("tlope 1 4;", 0, 1);
        Check.faults("slope 1 4;atone 0 1;", 10, 1);
        Check.faults("slope 1 4;mouse hut 0 1 1;", 10, 1);
        Check.faults("slope 1 4;house nut 0 1 1;", 16, 1);
        Check.faults("slope 1 4;house ann 0 1 1;", 16, 1);
        Check.faults("slope 1 4;house huts 0 1 1;", 16, 1);
        Check.faults("slope 1 4{", 9, 1);
        Check.faults("slope` 1 4;", 5, 1);
        Check.faults("slope 1/4;", 7, 1);
        Check.faults("slope 1:4;", 7, 1);
        Check.faults("slop e 1 4;", 0, 1);
        Check.faults(" Slope 1 4;", 1, 1);
        Check.faults("slope 1 4", 9, 1);
        Check.faults("slope 1 4 ", 10, 1);
        Check.faults("slope 1;", 7, 1);
        Check.faults("slope ;", 6, 1);
        Check.faults("slope 1 4 4;", 10, 1);
        Check.faults("slope 1 4;;", 10, 1);
        Check.faults("slope one 4;", 6, 1);
        Check.faults("slope 0001 4;", 6, 1);
        Check.faults("slope 1 0004;", 8, 1);
        Check.faults("slope 1 12345678;", 8, 1);
        Check.faults("slope 1 -4;", 8, 1);
        Check.faults("slope\t1 4;", 5, 1);
        Check.faults("slope 1 4;\r", 10, 1);
        Check.faults("slope 1 4;\u00e9", 10, 1);
        Check.faults("slope 1 4;\u0000", 10, 1);
        Check.faults("slope 1 4;slope 1 4;", 10, 1);
        Check.faults("slope 1 4;1", 10, 1);
        Check.faults("slope 1 4;stone 0 1;house hut 0 0 1;stone 0 2;", 36, 1);
        Check.faults("slope 1 4;house 0 0 1;", 16, 1);
        Check.faults("slope 1 4;house house 0 0 1;", 16, 1);
        Check.faults("slope 1 4;house tent 0 0 1;", 16, 1);
        Check.faults("slope 1 4;house hut 0 0;", 23, 1);
        Check.faults("slope 1 4;house hut 0 0 1", 25, 1);
        Check.faults("slope 1 4;stone 0 1 1;", 20, 1);
        Check.faults("slope 1 4;stone", 15, 1);
        Check.faults("slope 1 4;stones 0 1;", 10, 1);
        Check.faults("slope 9999 99;", 6, 1);
        Check.faults("slope 1 4;" + "stone 0 0;".repeat(8) + "house hut 0 1 1;stone 0 0;", 106, 1);
    }

    private static void numbersNotAsTold() {
        Check.faults("slope 0 4;", 6, 2);
        Check.faults("slope 5 4;", 6, 2);
        Check.faults("slope 999 !", 6, 2);
        Check.faults("slope 1 3;", 8, 2);
        Check.faults("slope 4 21;", 8, 2);
        Check.faults("slope 2 4;stone 2 0;", 16, 2);
        Check.faults("slope 2 4;stone 1 4;", 18, 2);
        Check.faults("slope 2 4;house hut 2 0 1;", 20, 2);
        Check.faults("slope 2 4;house hut 0 4 1;", 22, 2);
        Check.faults("slope 2 4;house hut 0 3 0;", 24, 2);
        Check.faults("slope 2 4;house hut 0 3 21;", 24, 2);
        Check.faults("slope 2 4;stone 1 2;house hut 1 2 1;", 32, 2);
        Check.faults("slope 2 4;stone 1 2;house hut 1 02 99;", 32, 2);
        Check.faults("slope 2 4;house hut 1 2 1;house inn 1 2 1;", 38, 2);
        Check.reads("slope 2 4;stone 1 2;house hut 0 2 1;house inn 1 1 1;", 2);
    }

    private static void noMoreRoom() {
        Check.faults("slope 1 4;" + "stone 0 0;".repeat(8) + "stone 0 0;", 90, 3);
        Check.faults("slope 1 4;" + "stone 0 0;".repeat(8) + " stone ! 9999;", 91, 3);
        String six = "slope 2 9;house hut 0 0 1;house hut 0 1 1;house hut 0 2 1;house hut 0 3 1;house hut 0 4 1;house hut 0 5 1;";
        Check.reads(six, 6);
        Check.faults(six + "house hut 0 6 1;", six.length(), 3);
        Check.faults(six + "house", six.length(), 3);
        Check.faults(six + "stone 0 8;", six.length(), 1);
    }

    private static void faultChangesNothing() {
        HillHouses x = Check.hillOf("slope 2 6;stone 1 5;house inn 0 1 7;house hut 1 2 3;");
        x.winter();
        x.chock(1, 1);
        x.image(1);
        x.haul(0, 0);
        Check.due("ask", x.ask(0, 0), 7);
        Check.due("hill", Check.read(x, "slope 3 9;house hut 2 8 1;house hut 2 8 1;"), -1000138);
        Check.due("fault", x.fault(), 2);
        Check.due("houses", x.count(1), 2);
        Check.due("stones", x.count(2), 1);
        Check.due("winters", x.count(3), 1);
        Check.due("acts", x.count(4), 3);
        Check.due("chocked", x.count(5), 1);
        Check.due("lent", x.house(1, 4), 7);
        Check.due("no lane 2", x.yard(2, 0), Check.BAD);
        Check.due("trace", x.trace(0), 11);
        Check.yards("after the fault", x, 0, 3);
        Check.due("undo", x.undo(), 2);
        Check.yards("haul undone", x, 3, 3);
    }

    private static void hillStandsAnew() {
        HillHouses x = Check.hillOf("slope 2 6;stone 1 5;house inn 0 1 7;house hut 1 2 3;");
        Check.due("fault", Check.read(x, "!"), -1000100);
        x.winter();
        x.chock(1, 1);
        x.haul(0, 0);
        x.image(0);
        x.row(2, 0, 3);
        Check.due("ask", x.ask(1, 1), -996);
        // What was tried out ahead leaves nothing in the hill that is read.
        Check.due("stream", x.stream(1), Check.NONE);
        Check.due("hill", Check.read(x, "slope 1 4;house church 0 0 9;house barn 0 2 9;"), 2);
        Check.due("the latest fault stays", x.fault(), 1);
        Check.due("stones", x.count(2), 0);
        Check.due("winters", x.count(3), 0);
        Check.due("acts", x.count(4), 0);
        Check.due("chocked", x.count(5), 0);
        Check.due("lent", x.house(1, 4), 0);
        Check.due("undo", x.undo(), Check.STATE);
        Check.due("rows stay", x.drop(2), 3);
        Check.due("trace stays", x.trace(0), 22);
        Check.due("winter 0, in which a church rolls", x.winter(), 3);
        Check.due("images stay", x.restore(0), 1);
        Check.yards("restored", x, 0, 3);
    }
}
