import java.nio.charset.StandardCharsets;
import java.util.Random;

/** Runs of calls by fixed seeds, each answer compared with the model's: at home, at the edges, and far outside. */
public final class RandomTest {
    private static final int RUNS = 1500;
    private static final int CALLS = 512;
    private static final int[] WILD = {-1, -2, 7, 8, 20, 21, 40, 41, 127, 128, 255, 32768, 65536, 400,
        Integer.MIN_VALUE, Integer.MAX_VALUE, Integer.MAX_VALUE - 1, Integer.MIN_VALUE + 1};
    private static final String[] SORTS = {"church", "barn", "inn", "mill", "hut"};

    private final Random random;
    private final HillHouses x = new HillHouses();
    private final Model m = new Model();
    private final int run;

    private RandomTest(int run) {
        this.run = run;
        this.random = new Random(run);
    }

    public static void main(String[] args) {
        for (int run = 0; run < RUNS; run++) {
            new RandomTest(run).play();
        }
        Check.end("RandomTest");
    }

    private int below(int n) {
        return random.nextInt(n);
    }

    /** A number from 0 to most, or, now and then, any other. */
    private int some(int most) {
        int pick = below(40);
        if (pick == 0) {
            return WILD[below(WILD.length)];
        }
        return pick == 1 ? most + 1 : below(most + 1);
    }

    private void due(String call, long got, long want) {
        Check.due("run " + run + ": " + call, got, want);
    }

    private void play() {
        for (int call = 0; call < CALLS; ) {
            if (call % 97 == 0 || below(60) == 0) {
                call += tell();
            }
            one();
            call++;
            if (below(12) == 0) {
                look();
            }
        }
    }

    private int tell() {
        byte[] bytes = text().getBytes(StandardCharsets.ISO_8859_1);
        int calls = 1;
        for (int at = 0; at < bytes.length; calls++) {
            int n = Math.min(1 + below(8), bytes.length - at);
            long w = random.nextLong();
            for (int k = 0; k < n; k++) {
                w = w << 8 | bytes[at + k] & 255;
            }
            due("feed", x.feed(w, n), m.feed(w, n));
            at += n;
        }
        due("hill", x.hill(), m.hill());
        due("fault", x.fault(), m.fault());
        return calls;
    }

    private String gap() {
        return " ".repeat(below(8) == 0 ? below(3) : 1) + (below(20) == 0 ? "\n" : "");
    }

    private String text() {
        int lanes = 1 + below(4);
        int deep = 4 + (below(2) == 0 ? below(5) : below(17));
        StringBuilder s = new StringBuilder("slope" + gap() + lanes + " " + deep + gap() + ";" + gap());
        for (int told = below(below(4) == 0 ? 10 : 4); told > 0; told--) {
            s.append("stone" + gap() + below(lanes) + " " + below(deep) + ";");
        }
        for (int told = below(20) == 0 ? 7 : below(7); told > 0; told--) {
            s.append("house " + SORTS[below(5)] + gap() + below(lanes) + " " + below(deep) + " " + (1 + below(20)) + ";");
        }
        if (below(6) == 0) {
            spoil(s);
        }
        return s.toString();
    }

    private void spoil(StringBuilder s) {
        int at = below(s.length());
        switch (below(4)) {
            case 0:
                s.setLength(at);
                break;
            case 1:
                s.deleteCharAt(at);
                break;
            case 2:
                s.setCharAt(at, "09; \nasz!A\u00ff".charAt(below(11)));
                break;
            default:
                s.insert(at, "09; \nasz!A\u00ff".charAt(below(11)));
        }
    }

    private void one() {
        int a = some(5);
        int b = some(5);
        int row = some(3);
        switch (below(28)) {
            case 0 -> rowCalls(row);
            case 1, 2 -> fillRow(row);
            case 3, 4, 5 -> due("winter", x.winter(), m.winter());
            case 6, 7 -> {
                int lane = some(3);
                due("haul(" + a + ", " + lane + ")", x.haul(a, lane), m.haul(a, lane));
            }
            case 8, 9, 10 -> {
                int is = some(1);
                due("chock(" + a + ", " + is + ")", x.chock(a, is), m.chock(a, is));
            }
            case 11 -> {
                int i = some(6);
                int n = some(6);
                due("chocks", x.chocks(row, i, n), m.chocks(row, i, n));
            }
            case 12, 13 -> due("undo", x.undo(), m.undo());
            case 14 -> {
                int n = some(40);
                int what = some(1);
                due("ahead", x.ahead(a, n, what), m.ahead(a, n, what));
            }
            case 15 -> due("stream", x.stream(a), m.stream(a));
            case 16 -> {
                int n = some(40);
                due("beside", x.beside(a, b, n), m.beside(a, b, n));
            }
            case 17 -> {
                int n = below(3) > 0 ? some(6) : some(20);
                int what = some(1);
                due("meet", x.meet(a, b, n, what), m.meet(a, b, n, what));
            }
            case 18 -> due("street", x.street(a), m.street(a));
            case 19 -> {
                int w = some(40);
                int n = below(2) > 0 ? some(8) : some(40);
                due("stood", x.stood(a, w, n), m.stood(a, w, n));
            }
            case 20, 21, 22 -> steal(row);
            case 23 -> {
                int k = some(1);
                due("image", x.image(k), m.image(k));
            }
            case 24 -> {
                int k = some(1);
                due("restore", x.restore(k), m.restore(k));
            }
            default -> asks(a);
        }
    }

    private void rowCalls(int row) {
        int other = some(3);
        int lane = below(3) > 0 ? 2 : some(2);
        int n = below(2) == 0 ? some(6) : some(40);
        int i = some(8);
        int j = some(8);
        switch (below(6)) {
            case 0 -> due("drop", x.drop(row), m.drop(row));
            case 1, 2 -> due("row", x.row(row, lane, n), m.row(row, lane, n));
            default -> due("copy", x.copy(row, i, other, j, n), m.copy(row, i, other, j, n));
        }
        due("status", x.status(), m.status());
    }

    private void fillRow(int row) {
        for (int i = 0; i < 4; i++) {
            int at = some(6);
            int v = below(10) == 0 ? random.nextInt() : some(5);
            due("set", x.set(row, at, v), m.set(row, at, v));
        }
        due("status", x.status(), m.status());
    }

    /** Tells a row of what comes, or nearly so, when some chocks are gone; then asks. */
    private void steal(int row) {
        int houses = m.count(1);
        if (below(4) > 0) {
            due("row", x.row(row, 2, houses), m.row(row, 2, houses));
            int by = below(64);
            for (int h = 0; h < houses; h++) {
                int yard = (by >> h & 1) == 1 ? m.ahead(h, 1, 1) : m.house(h, 1) + below(2);
                due("set", x.set(row, h, yard), m.set(row, h, yard));
            }
        }
        due("stolen", x.stolen(row), m.stolen(row));
        due("status", x.status(), m.status());
    }

    private void asks(int a) {
        int kind = some(5);
        int what = some(1);
        due("kind", x.kind(a), m.kind(a));
        due("as", x.as(a, kind), m.as(a, kind));
        due("status", x.status(), m.status());
        due("ask", x.ask(a, what), m.ask(a, what));
        for (int i = -1; i < 8; i++) {
            due("trace", x.trace(i), m.trace(i));
        }
    }

    private void look() {
        for (int what = -1; what <= 7; what++) {
            due("count(" + what + ")", x.count(what), m.count(what));
        }
        for (int h = 0; h < 6; h++) {
            for (int what = 0; what <= 6; what++) {
                due("house(" + h + ", " + what + ")", x.house(h, what), m.house(h, what));
            }
        }
        int lane = some(3);
        int yard = some(19);
        due("yard", x.yard(lane, yard), m.yard(lane, yard));
        due("status", x.status(), m.status());
    }
}
