import java.util.ArrayList;
import java.util.List;
import java.util.function.Supplier;
import java.util.function.ToLongFunction;

/** What the tests of boundary cases have in common: answers that are due, refused calls, objects to try them on. */
abstract class Boundaries {
    static final int BEYOND = 0, FULL = 1, KIND = 2, NONE = 3, STATE = 4, MISSING = 5, SIZE = 6, OVER = 7;
    static final int LEAST = Integer.MIN_VALUE, MOST = Integer.MAX_VALUE;

    /** Coordinates that are none: the first beyond on both sides, and the farthest. */
    static final int[] NO_COORDINATES = {-100, 100, LEAST, MOST};

    final List<String> wrong = new ArrayList<>();
    int asked;

    static int finding(int k) {
        return -1000001 - k;
    }

    static long longFinding(int k) {
        return -1000000000000000001L - k;
    }

    void due(long want, long got) {
        asked++;
        if (want != got) {
            wrong.add(place() + "answered " + got + ", due is " + want);
        }
    }

    void dueAll(long[] want, long... got) {
        due(want.length, got.length);
        for (int k = 0; k < Math.min(want.length, got.length); k++) {
            due(want[k], got[k]);
        }
    }

    static long[] row(long... numbers) {
        return numbers;
    }

    private String place() {
        for (StackTraceElement element : Thread.currentThread().getStackTrace()) {
            if (element.getClassName().equals(getClass().getName())) {
                return element.getFileName() + ":" + element.getLineNumber() + ": ";
            }
        }
        return "";
    }

    // ---- refused calls

    /** The call answers its finding, status() counts that once for each time, and nothing else changes. */
    void refused(int k, Supplier<WalledFields> maker, ToLongFunction<WalledFields> call) {
        refused(k, finding(k), true, maker, call);
    }

    /** Likewise of a call that answers a long. */
    void refusedLong(int k, Supplier<WalledFields> maker, ToLongFunction<WalledFields> call) {
        refused(k, longFinding(k), true, maker, call);
    }

    /** Likewise of a call that changes THE BLAME too. */
    void refusedWithBlame(Supplier<WalledFields> maker, ToLongFunction<WalledFields> call) {
        refused(STATE, finding(STATE), false, maker, call);
    }

    private void refused(int k, long answer, boolean keepsBlame, Supplier<WalledFields> maker, ToLongFunction<WalledFields> call) {
        WalledFields other = maker.get();
        WalledFields w = maker.get();
        long[] before = statusOf(w);
        due(answer, call.applyAsLong(w));
        due(answer, call.applyAsLong(w));
        before[k] += 2;
        before[8] += 2;
        dueAll(before, statusOf(w));
        List<String> was = allOf(other, keepsBlame);
        List<String> is = allOf(w, keepsBlame);
        asked++;
        for (int n = 0; n < Math.min(was.size(), is.size()); n++) {
            if (!was.get(n).equals(is.get(n))) {
                wrong.add(place() + "a refused call left " + is.get(n) + ", it was " + was.get(n));
                return;
            }
        }
        due(was.size(), is.size());
    }

    /** What status() counts of each finding, and all together. */
    static long[] statusOf(WalledFields w) {
        long[] counts = new long[9];
        for (int k = 0; k < 8; k++) {
            counts[k] = w.status(k);
        }
        counts[8] = w.status(-1);
        return counts;
    }

    /** Exactly these findings have been answered: so many of each. */
    void dueStatus(WalledFields w, long... counts) {
        long[] want = new long[9];
        for (int k = 0; k < counts.length; k++) {
            want[k] = counts[k];
            want[8] += counts[k];
        }
        dueAll(want, statusOf(w));
    }

    /** All that calls can tell of an object but status(); the object isn't what it was behind this. */
    static List<String> allOf(WalledFields w, boolean withBlame) {
        List<String> all = new ArrayList<>();
        for (int what = 0; what < 3 && withBlame; what++) {
            all.add("blame(" + what + ") " + w.blame(what));
        }
        addLand(all, w);
        addRows(all, w);
        for (int spot = 0; spot < 10; spot++) {
            for (int as : new int[] {0, 1, 6, 7}) {
                all.add("taken(" + spot + ", " + as + ") " + w.taken(spot, as));
            }
        }
        addSheets(all, w);
        addTape(all, w);
        all.add("back() " + w.back());
        addLand(all, w);
        return all;
    }

    private static void addLand(List<String> all, WalledFields w) {
        for (int what = 0; what < 6; what++) {
            all.add("count(" + what + ") " + w.count(what));
        }
        all.add("LEDGER " + w.book(0, 0));
        for (int i = 0; i < w.count(0); i++) {
            for (int what = 0; what < 6; what++) {
                all.add("of(" + i + ", " + what + ") " + w.of(i, what));
            }
        }
        for (int what = 0; what < 4; what++) {
            all.add("many(" + what + ") " + w.many(what));
        }
        all.add("depth " + w.depth(0) + " " + w.depth(1));
        all.add("best() " + w.best());
    }

    private static void addRows(List<String> all, WalledFields w) {
        all.add("judge() " + w.judge());
        int rows = w.count(3);
        for (int k = 0; k < rows; k++) {
            for (int what = 0; what < 4; what++) {
                all.add("row(" + k + ", " + what + ") " + w.row(k, what));
            }
        }
    }

    private static void addSheets(List<String> all, WalledFields w) {
        for (int s = 0; s < 4; s++) {
            long item = 0;
            for (int i = 0; i <= 40 && item > longFinding(0); i++) {
                item = w.item(s, i);
                all.add("item(" + s + ", " + i + ") " + item);
            }
            // Which sort it is of: what is left of a number that is no byte and no int.
            all.add("write(" + s + ", 0, ..) " + w.write(s, 0, 0x100000180L) + " " + w.item(s, 0));
        }
    }

    /** The tape of rich() lacks its last NUMBER. */
    private static void addTape(List<String> all, WalledFields w) {
        all.add("feed(' 3', 2) " + w.feed(0x2033, 2));
        all.add("text() " + w.text() + ", then TIDE " + w.count(1));
    }

    // ---- objects to try calls on

    static WalledFields empty() {
        return new WalledFields();
    }

    /** A wall with a shorter one over it: ENDS (0, 0), (2, 5), (8, 5), (10, 0); FIELDS 0 to 6. */
    static WalledFields two() {
        WalledFields w = new WalledFields();
        w.segment(3, 0, 0, 10, 0);
        w.segment(2, 8, 5, 2, 5);
        return w;
    }

    /** A triangle of TOLLS 5 each in a triangle of TOLLS 7 each. */
    static WalledFields nested() {
        WalledFields w = new WalledFields();
        w.segment(5, -1, -1, 1, -1);
        w.segment(5, 1, -1, 0, 1);
        w.segment(5, 0, 1, -1, -1);
        w.segment(7, -9, -9, 9, -9);
        w.segment(7, 9, -9, 0, 9);
        w.segment(7, 0, 9, -9, -9);
        return w;
    }

    /** Six level walls, each begun and closed apart from all others: as many ENDS, CELLS and FIELDS as there may be. */
    static WalledFields stack() {
        WalledFields w = new WalledFields();
        for (int k = 0; k < 6; k++) {
            w.segment(10 * k + k, k - 20, 10 * k, k + 20, 10 * k);
        }
        return w;
    }

    /** Something of all there is: walls, TIDE, LEDGER, z, THE BLAME, SHEETS, SPOTS, ROWS, THE TAPE, something kept. */
    static WalledFields rich() {
        WalledFields w = new WalledFields();
        w.segment(3, 0, 0, 10, 0);
        w.tide(1);
        w.image();
        w.segment(12, 2, 5, 8, 5);
        w.segment(24, 20, -5, 20, 5);
        w.tide(2);
        w.book(0, 1L << 40);
        w.seed(77);
        w.segment(0, 5, 7, 5, 3);
        w.prove();
        w.alter(1, 1, 9);
        w.hold(0, 5, 1);
        w.hold(1, 2, 5);
        w.hold(2, 5, 5);
        for (int s = 0; s < 3; s++) {
            w.sheet(s, s, 3 + s);
            w.write(s, 0, 5 + s);
            w.write(s, 1, -7);
            w.write(s, 2 + s, 9);
        }
        w.feed(0x74696465, 4);
        return w;
    }

    /** As rich(), with as many walls as there may be. */
    static WalledFields richAndFull() {
        WalledFields w = rich();
        w.segment(31, 40, 0, 50, 0);
        w.segment(42, 40, 10, 50, 10);
        w.segment(53, 40, 20, 50, 20);
        return w;
    }

    static void tell(WalledFields w, String text) {
        for (int k = 0; k < text.length(); k++) {
            w.feed(text.charAt(k), 1);
        }
    }

    static int read(WalledFields w, String text) {
        tell(w, text);
        return w.text();
    }
}
