import java.util.ArrayList;
import java.util.List;
import java.util.function.ToIntFunction;

/** What the document says of refusals and findings: which comes first, and that nothing else changes. */
final class RefusalSentences {
    record Refused(String name, int answer, ToIntFunction<HillHouses> call) {
    }

    private static final int[] HOUSES = {-1, 6, Check.LEAST, Check.MOST};

    private RefusalSentences() {
    }

    static void all() {
        badIsFirst();
        stateAndFullAreNext();
        findingsAreLast();
        findingsInTime();
        findingsByNumber();
        nothingElseChanges();
        nothingElseChangesWithoutHill();
    }

    private static void badIsFirst() {
        Check.says("Terms", "Refusals are answers, the first of these that fits, but as told: BAD (a number is not as told; "
            + "there is no such thing)");
        HillHouses none = new HillHouses();
        Check.due("image: BAD, then STATE", none.image(2), Check.BAD);
        Check.due("restore: BAD, then STATE", none.restore(-1), Check.BAD);
        Check.due("haul: there is no such house, then STATE", none.haul(0, 0), Check.BAD);
        Check.due("house: there is no such house", none.house(0, 0), Check.BAD);
        HillHouses alone = Check.hillOf("slope 2 4;house hut 0 0 1;");
        Check.due("haul: BAD, then STATE", alone.haul(0, 2), Check.BAD);
        Check.due("haul: BAD, then STATE", alone.haul(1, 0), Check.BAD);
        HillHouses full = new HillHouses();
        for (int bytes = 8; bytes <= 400; bytes += 8) {
            Check.due("feed", full.feed(0, 8), bytes);
        }
        Check.due("feed: BAD, then FULL", full.feed(0, 9), Check.BAD);
        Check.due("feed: BAD, then FULL", full.feed(0, 0), Check.BAD);
        Check.due("feed: FULL", full.feed(0, 1), Check.FULL);
    }

    private static void stateAndFullAreNext() {
        Check.says("Terms", ", STATE (as told), FULL (as told), then FINDINGS,");
        HillHouses none = new HillHouses();
        Check.due("chocks: STATE, then NULL", none.chocks(0, 0, 1), Check.STATE);
        Check.due("stolen: STATE, then NULL", none.stolen(0), Check.STATE);
        Check.due("chocks: STATE, then BAD, as told", none.chocks(8, 0, 0), Check.STATE);
        Check.due("stolen: STATE, then BAD, as told", none.stolen(8), Check.STATE);
        Check.rowOf(none, 0, 0);
        Check.due("chocks: STATE, then PLACE", none.chocks(0, 1, 1), Check.STATE);
        Check.due("stolen: STATE", none.stolen(0), Check.STATE);
        Check.due("winter: STATE", none.winter(), Check.STATE);
        Check.due("undo: STATE", none.undo(), Check.STATE);
    }

    private static void findingsAreLast() {
        Check.says("Promise 2", "BAD: ROW, LANE, n above 40; SIZE.");
        HillHouses x = State.reader();
        x.row(0, 0, 2);
        x.row(1, 2, 2);
        Check.due("row: BAD, then SIZE", x.row(8, 0, -1), Check.BAD);
        Check.due("row: BAD, then SIZE", x.row(0, 3, -1), Check.BAD);
        Check.due("row: BAD, then SIZE", x.row(0, -1, -1), Check.BAD);
        Check.says("Promise 4", "BAD: ROWS; NULL; STORE; PLACE");
        Check.due("copy: BAD, then NULL", x.copy(7, 0, 8, 0, 1), Check.BAD);
        Check.due("copy: BAD, then NULL", x.copy(8, 0, 7, 0, 1), Check.BAD);
        Check.due("copy: BAD, then PLACE", x.copy(8, -1, 0, 0, 1), Check.BAD);
        Check.says("Promise 12", "BAD: ROW, n; STATE: no HILL (ahead of BAD); NULL; PLACE; then BAD");
        Check.due("chocks: BAD, then NULL", x.chocks(7, 0, 7), Check.BAD);
        Check.due("chocks: BAD, then PLACE", x.chocks(0, -1, 0), Check.BAD);
        x.set(0, 0, 9);
        Check.due("chocks: PLACE, then BAD of an item", x.chocks(0, 0, 3), Check.PLACE);
        Check.due("chocks: BAD of an item", x.chocks(0, 0, 2), Check.BAD);
        Check.says("Promise 22", "BAD: ROW; STATE: no HILL (ahead of BAD); NULL; PLACE; then BAD");
        x.set(1, 0, 99);
        Check.due("stolen: PLACE, then BAD of an item", x.stolen(1), Check.PLACE);
        Check.says("Promise 26", "BAD; KIND");
        Check.due("as: BAD, then KIND", x.as(0, 6), Check.BAD);
        Check.due("as: BAD, then KIND", x.as(6, 1), Check.BAD);
        Check.due("as: KIND", x.as(0, 1), Check.KIND);
    }

    private static void findingsInTime() {
        Check.says("Terms", "of several the first in time:");
        HillHouses x = State.reader();
        x.row(0, 0, 2);
        x.row(1, 2, 2);
        Check.due("set: NULL, then PLACE", x.set(7, -1, 0), Check.NULL);
        Check.due("copy: NULL, then STORE, PLACE", x.copy(7, -1, 1, 0, -1), Check.NULL);
        Check.due("copy: NULL, then PLACE", x.copy(0, -1, 7, 0, -1), Check.NULL);
        Check.due("copy: STORE, then PLACE", x.copy(0, -1, 1, 0, -1), Check.STORE);
        Check.due("copy: PLACE", x.copy(0, -1, 0, 0, -1), Check.PLACE);
        Check.due("chocks: NULL, then PLACE", x.chocks(7, -1, 6), Check.NULL);
        Check.due("stolen: NULL", x.stolen(7), Check.NULL);
    }

    private static void findingsByNumber() {
        HillHouses x = State.reader();
        x.row(0, 0, 2);
        x.row(1, 2, 2);
        Check.says("Terms", "-1000010 less 1 NULL (a ROW that is missing),");
        Check.due("set", x.set(2, 0, 0), -1000011);
        Check.due("status", x.status(), 1);
        Check.says("Terms", "2 PLACE (no such place of a ROW),");
        Check.due("set", x.set(0, 2, 0), -1000012);
        Check.due("status", x.status(), 2);
        Check.says("Terms", "3 KIND (a HOUSE that is not that),");
        Check.due("as", x.as(0, 1), -1000013);
        Check.due("status", x.status(), 3);
        Check.says("Terms", "4 SIZE (fewer than none),");
        Check.due("row", x.row(0, 0, -1), -1000014);
        Check.due("status", x.status(), 4);
        Check.says("Terms", "5 STORE (ROWS of two LANES).");
        Check.due("copy", x.copy(0, 0, 1, 0, 1), -1000015);
        Check.due("status", x.status(), 5);
    }

    private static void nothingElseChanges() {
        Check.says("Terms", "What is refused, or found, changes nothing but status().");
        HillHouses same = State.rich();
        int status = same.status();
        String[] was = State.of(same).split(" ", 3);
        List<Refused> calls = new ArrayList<>();
        rowCalls(calls);
        hillCalls(calls);
        foretoldCalls(calls);
        askedCalls(calls);
        for (Refused refused : calls) {
            HillHouses x = State.rich();
            Check.due(refused.name, refused.call.applyAsInt(x), refused.answer);
            boolean isFound = refused.answer <= Check.NULL;
            Check.due("status of " + refused.name, x.status(), isFound ? -1000010 - refused.answer : status);
            Check.alike(refused.name, State.of(x).split(" ", 3)[2], was[2]);
        }
        HillHouses full = fullTape();
        Check.due("feed", full.feed(-1, 1), Check.FULL);
        Check.alike("feed to a full tape", State.of(full), State.of(fullTape()));
    }

    private static HillHouses fullTape() {
        HillHouses x = new HillHouses();
        Check.feed(x, "slope 2 20;stone 1 3;" + " ".repeat(379));
        return x;
    }

    private static void add(List<Refused> calls, String name, int answer, ToIntFunction<HillHouses> call) {
        calls.add(new Refused(name, answer, call));
    }

    private static void rowCalls(List<Refused> calls) {
        for (int row : Check.NO_ROW) {
            add(calls, "row", Check.BAD, x -> x.row(row, 0, 1));
            add(calls, "set", Check.BAD, x -> x.set(row, 0, 1));
            add(calls, "copy", Check.BAD, x -> x.copy(row, 0, 0, 0, 1));
            add(calls, "copy", Check.BAD, x -> x.copy(0, 0, row, 0, 1));
            add(calls, "drop", Check.BAD, x -> x.drop(row));
        }
        add(calls, "row, no lane", Check.BAD, x -> x.row(0, 3, 1));
        add(calls, "row of 41", Check.BAD, x -> x.row(0, 2, 41));
        add(calls, "row of -1", Check.SIZE, x -> x.row(0, 2, -1));
        add(calls, "set of a missing row", Check.NULL, x -> x.set(7, 0, 1));
        add(calls, "set, no place", Check.PLACE, x -> x.set(0, 6, 1));
        add(calls, "set, no place", Check.PLACE, x -> x.set(2, -1, 1));
        add(calls, "copy of a missing row", Check.NULL, x -> x.copy(7, 0, 0, 0, 1));
        add(calls, "copy to a missing row", Check.NULL, x -> x.copy(0, 0, 7, 0, 1));
        add(calls, "copy of two lanes", Check.STORE, x -> x.copy(1, 0, 0, 0, 1));
        add(calls, "copy beyond an end", Check.PLACE, x -> x.copy(0, 3, 2, 0, 4));
        add(calls, "copy beyond an end", Check.PLACE, x -> x.copy(0, 0, 2, 3, 4));
        add(calls, "drop of a missing row", Check.NULL, x -> x.drop(7));
    }

    private static void hillCalls(List<Refused> calls) {
        add(calls, "feed of 0", Check.BAD, x -> x.feed(-1, 0));
        add(calls, "feed of 9", Check.BAD, x -> x.feed(-1, 9));
        add(calls, "haul to no lane", Check.BAD, x -> x.haul(1, 3));
        add(calls, "haul to a house", Check.STATE, x -> x.haul(1, 0));
        add(calls, "haul to a stone", Check.STATE, x -> x.haul(1, 2));
        add(calls, "chock, neither", Check.BAD, x -> x.chock(1, 2));
        add(calls, "chocks of no row", Check.BAD, x -> x.chocks(8, 0, 1));
        add(calls, "chocks of seven", Check.BAD, x -> x.chocks(0, 0, 7));
        add(calls, "chocks of none", Check.BAD, x -> x.chocks(0, 0, 0));
        add(calls, "chocks of a missing row", Check.NULL, x -> x.chocks(7, 0, 1));
        add(calls, "chocks, no place", Check.PLACE, x -> x.chocks(0, 1, 6));
        add(calls, "chocks of one that is a house, one that is none", Check.BAD, x -> x.chocks(1, 0, 2));
        add(calls, "house, what", Check.BAD, x -> x.house(0, 6));
        add(calls, "yard, no lane", Check.BAD, x -> x.yard(3, 0));
        add(calls, "yard, no yard", Check.BAD, x -> x.yard(0, 8));
        for (int house : HOUSES) {
            add(calls, "haul", Check.BAD, x -> x.haul(house, 1));
            add(calls, "chock", Check.BAD, x -> x.chock(house, 1));
            add(calls, "house", Check.BAD, x -> x.house(house, 1));
        }
    }

    private static void foretoldCalls(List<Refused> calls) {
        for (int house : HOUSES) {
            add(calls, "ahead", Check.BAD, x -> x.ahead(house, 0, 0));
            add(calls, "stream", Check.BAD, x -> x.stream(house));
            add(calls, "beside", Check.BAD, x -> x.beside(house, 0, 0));
            add(calls, "meet", Check.BAD, x -> x.meet(0, house, 0, 0));
            add(calls, "street", Check.BAD, x -> x.street(house));
            add(calls, "stood", Check.BAD, x -> x.stood(house, 0, 0));
        }
        add(calls, "ahead by 41", Check.BAD, x -> x.ahead(0, 41, 0));
        add(calls, "beside behind 41", Check.BAD, x -> x.beside(0, 1, 41));
        add(calls, "beside itself", Check.BAD, x -> x.beside(0, 0, 1));
        add(calls, "meet in 21", Check.BAD, x -> x.meet(0, 1, 21, 0));
        add(calls, "meet itself", Check.BAD, x -> x.meet(0, 0, 1, 0));
        add(calls, "stood from 41", Check.BAD, x -> x.stood(0, 41, 0));
        add(calls, "stood in 41", Check.BAD, x -> x.stood(0, 0, 41));
        add(calls, "stolen of no row", Check.BAD, x -> x.stolen(8));
        add(calls, "stolen of a missing row", Check.NULL, x -> x.stolen(7));
        add(calls, "stolen, no place", Check.PLACE, x -> x.stolen(1));
        add(calls, "stolen, no yard", Check.BAD, x -> x.stolen(2));
        add(calls, "image", Check.BAD, x -> x.image(2));
        add(calls, "restore", Check.BAD, x -> x.restore(2));
        add(calls, "restore, none kept", Check.STATE, x -> x.restore(1));
    }

    private static void askedCalls(List<Refused> calls) {
        for (int house : HOUSES) {
            add(calls, "kind", Check.BAD, x -> x.kind(house));
            add(calls, "as", Check.BAD, x -> x.as(house, 0));
            add(calls, "ask", Check.BAD, x -> x.ask(house, 0));
        }
        add(calls, "as no kind", Check.BAD, x -> x.as(0, 6));
        add(calls, "as another", Check.KIND, x -> x.as(0, 1));
        add(calls, "ask, what", Check.BAD, x -> x.ask(0, 2));
        add(calls, "count", Check.BAD, x -> x.count(7));
        add(calls, "trace", Check.NONE, x -> x.trace(16));
    }

    private static HillHouses withoutHill() {
        HillHouses x = new HillHouses();
        Check.rowOf(x, 0, 5, 4, 3);
        x.row(1, 0, 2);
        Check.due("a finding", x.set(1, 2, 0), Check.PLACE);
        Check.feed(x, "slope 2 5;house hut 1 3 8;");
        return x;
    }

    private static void nothingElseChangesWithoutHill() {
        List<Refused> calls = new ArrayList<>();
        add(calls, "winter", Check.STATE, HillHouses::winter);
        add(calls, "undo", Check.STATE, HillHouses::undo);
        add(calls, "haul", Check.BAD, x -> x.haul(0, 0));
        add(calls, "chock", Check.BAD, x -> x.chock(0, 1));
        add(calls, "chocks", Check.STATE, x -> x.chocks(0, 0, 1));
        add(calls, "stolen", Check.STATE, x -> x.stolen(0));
        add(calls, "image", Check.STATE, x -> x.image(0));
        add(calls, "restore", Check.STATE, x -> x.restore(1));
        add(calls, "as", Check.BAD, x -> x.as(0, 0));
        add(calls, "ask", Check.BAD, x -> x.ask(0, 0));
        String was = State.of(withoutHill());
        for (Refused refused : calls) {
            HillHouses x = withoutHill();
            Check.due(refused.name + " without a hill", refused.call.applyAsInt(x), refused.answer);
            Check.alike(refused.name + " without a hill", State.of(x), was);
        }
    }
}
