import java.nio.charset.StandardCharsets;
import java.util.function.IntUnaryOperator;

/** What the tests share: counting answers that are not due, numbers far outside, and telling a hill by its text. */
final class Check {
    static final int NONE = -1000000, BAD = -1000001, STATE = -1000002, FULL = -1000003;
    static final int NULL = -1000011, PLACE = -1000012, KIND = -1000013, SIZE = -1000014, STORE = -1000015;

    static final int LEAST = Integer.MIN_VALUE, MOST = Integer.MAX_VALUE;
    static final int[] NO_ROW = {-1, 8, LEAST, MOST};

    private static int right;
    private static int wrong;
    private static String sentence = "";
    private static int rightAtSentence = -1;

    private Check() {
    }

    /** What follows holds the class to this sentence of a part ("Terms", "Promise 7") of the document. */
    static void says(String part, String quote) {
        sentenceEnds();
        Document.quote(part, quote);
        sentence = "[" + part + ": '" + quote + "'] ";
        rightAtSentence = right + wrong;
    }

    static void sentenceEnds() {
        if (right + wrong == rightAtSentence) {
            fail("no call holds the class to this");
        }
        sentence = "";
        rightAtSentence = -1;
    }

    static void due(String call, long got, long want) {
        if (got == want) {
            right++;
        } else {
            fail(call + " answered " + got + ", due is " + want);
        }
    }

    static void alike(String call, String got, String want) {
        if (got.equals(want)) {
            right++;
        } else {
            fail(call + " left\n    " + got + ", due is\n    " + want);
        }
    }

    static void fail(String what) {
        wrong++;
        System.out.println("  " + sentence + what);
    }

    /** Each call of a count that is below 0, or above the most, is BAD. */
    static void badOutside(String call, int most, IntUnaryOperator answer) {
        badBelow(call, 0, answer);
        badAbove(call, most, answer);
    }

    static void badBelow(String call, int least, IntUnaryOperator answer) {
        due(call + " of " + (least - 1), answer.applyAsInt(least - 1), BAD);
        due(call + " of the least int", answer.applyAsInt(LEAST), BAD);
    }

    static void badAbove(String call, int most, IntUnaryOperator answer) {
        due(call + " of " + (most + 1), answer.applyAsInt(most + 1), BAD);
        due(call + " of 32 + " + most, answer.applyAsInt(32 + most), BAD);
        due(call + " of the most int", answer.applyAsInt(MOST), BAD);
    }

    /** A text without a fault: so many houses. */
    static void reads(String text, int houses) {
        HillHouses x = new HillHouses();
        due("hill '" + text + "'", read(x, text), houses);
        due("fault after '" + text + "'", x.fault(), 0);
    }

    /** A text with a fault: its place and number; there is no hill by it. */
    static void faults(String text, int place, int fault) {
        HillHouses x = new HillHouses();
        due("hill '" + text + "'", read(x, text), -1000100 - place);
        due("fault of '" + text + "'", x.fault(), fault);
        due("tape after '" + text + "'", x.count(6), 0);
        due("no hill after '" + text + "'", x.winter(), STATE);
    }

    static void feed(HillHouses x, String text) {
        byte[] bytes = text.getBytes(StandardCharsets.ISO_8859_1);
        for (int from = 0; from < bytes.length; from += 8) {
            int n = Math.min(8, bytes.length - from);
            long w = 0;
            for (int k = 0; k < n; k++) {
                w = w << 8 | bytes[from + k] & 255;
            }
            due("feed", x.feed(w, n), from + n);
        }
    }

    static int read(HillHouses x, String text) {
        feed(x, text);
        return x.hill();
    }

    /** A new object with the hill of a text that has no fault. */
    static HillHouses hillOf(String text) {
        HillHouses x = new HillHouses();
        due("hill of " + text, Math.min(0, read(x, text)), 0);
        return x;
    }

    static void rowOf(HillHouses x, int row, int... items) {
        due("row", x.row(row, 2, items.length), items.length);
        for (int i = 0; i < items.length; i++) {
            due("set", x.set(row, i, items[i]), items[i]);
        }
    }

    /** The yards of all houses, in the order of their numbers. */
    static void yards(String when, HillHouses x, int... want) {
        due(when + ": houses", x.count(1), want.length);
        for (int h = 0; h < want.length; h++) {
            due(when + ": yard of house " + h, x.house(h, 1), want[h]);
        }
    }

    static void end(String test) {
        System.out.println(test + ": " + right + " answers as due, " + wrong + " not");
        if (wrong > 0 || right == 0) {
            System.exit(1);
        }
    }
}
