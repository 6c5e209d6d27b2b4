import java.nio.charset.StandardCharsets;

/** What the tests share: counting answers that are not due, and telling a hill by its text. */
final class Check {
    static final int NONE = -1000000, BAD = -1000001, STATE = -1000002, FULL = -1000003;
    static final int NULL = -1000011, PLACE = -1000012, KIND = -1000013, SIZE = -1000014, STORE = -1000015;

    private static int right;
    private static int wrong;

    private Check() {
    }

    static void due(String call, long got, long want) {
        if (got == want) {
            right++;
        } else {
            wrong++;
            System.out.println("  " + call + " answered " + got + ", due is " + want);
        }
    }

    static void feed(HillHouses x, String text) {
        byte[] bytes = text.getBytes(StandardCharsets.ISO_8859_1);
        for (int from = 0; from < bytes.length; from += 8) {
            int n = Math.min(8, bytes.length - from);
            long w = 0;
            for (int k = 0; k < n; k++) {
                w = w << 8 | bytes[from + k] & 255;
            }
            due("feed", x.feed(w, n), from + n);
        }
    }

    static int read(HillHouses x, String text) {
        feed(x, text);
        return x.hill();
    }

    /** A new object with the hill of a text that has no fault. */
    static HillHouses hillOf(String text) {
        HillHouses x = new HillHouses();
        due("hill of " + text, Math.min(0, read(x, text)), 0);
        return x;
    }

    static void rowOf(HillHouses x, int row, int... items) {
        due("row", x.row(row, 2, items.length), items.length);
        for (int i = 0; i < items.length; i++) {
            due("set", x.set(row, i, items[i]), items[i]);
        }
    }

    /** The yards of all houses, in the order of their numbers. */
    static void yards(String when, HillHouses x, int... want) {
        due(when + ": houses", x.count(1), want.length);
        for (int h = 0; h < want.length; h++) {
            due(when + ": yard of house " + h, x.house(h, 1), want[h]);
        }
    }

    static void end(String test) {
        System.out.println(test + ": " + right + " answers as due, " + wrong + " not");
        if (wrong > 0 || right == 0) {
            System.exit(1);
        }
    }
}
