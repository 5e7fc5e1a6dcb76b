import java.util.ArrayList;
import java.util.List;
import java.util.function.Supplier;
import java.util.function.ToLongFunction;

/** What the tests of boundary cases have in common: answers that are due, refused calls, an object to try them on. */
abstract class Boundaries extends Lands {
    static final int BEYOND = 0, FULL = 1, KIND = 2, NONE = 3, STATE = 4, MISSING = 5, SIZE = 6, OVER = 7;
    static final int LEAST = Integer.MIN_VALUE, MOST = Integer.MAX_VALUE;

    interface OfPoint {
        long on(WalledFields w, int x, int y);
    }

    interface OfTwoPoints {
        long on(WalledFields w, int x, int y, int u, int v);
    }

    final List<String> wrong = new ArrayList<>();
    int asked;

    static int finding(int k) {
        return -1000001 - k;
    }

    static long longFinding(int k) {
        return -1000000000000000001L - k;
    }

    void due(long want, long got) {
        asked++;
        if (want != got) {
            wrong.add(place() + "answered " + got + ", due is " + want);
        }
    }

    void dueAll(long[] want, long... got) {
        due(want.length, got.length);
        for (int k = 0; k < Math.min(want.length, got.length); k++) {
            due(want[k], got[k]);
        }
    }

    static long[] row(long... numbers) {
        return numbers;
    }

    private String place() {
        for (StackTraceElement element : Thread.currentThread().getStackTrace()) {
            if (element.getClassName().equals(getClass().getName())) {
                return element.getFileName() + ":" + element.getLineNumber() + ": ";
            }
        }
        return "";
    }

    // ---- refused calls

    /** The call answers its finding, status() counts that once for each time, and nothing else changes. */
    void refused(int k, Supplier<WalledFields> maker, ToLongFunction<WalledFields> call) {
        refused(k, finding(k), true, maker, call);
    }

    /** Likewise of a call that answers a long. */
    void refusedLong(int k, Supplier<WalledFields> maker, ToLongFunction<WalledFields> call) {
        refused(k, longFinding(k), true, maker, call);
    }

    /** Likewise of a call that changes THE BLAME too. */
    void refusedWithBlame(Supplier<WalledFields> maker, ToLongFunction<WalledFields> call) {
        refused(STATE, finding(STATE), false, maker, call);
    }

    /** A call with a POINT is BEYOND if either number is none. */
    void refusedBeyond(OfPoint call) {
        for (int far : outside(-99, 99)) {
            refused(BEYOND, Boundaries::rich, w -> call.on(w, far, 1));
            refused(BEYOND, Boundaries::rich, w -> call.on(w, 1, far));
        }
    }

    /** A call with two POINTS is BEYOND if any number is none. */
    void refusedBeyond(OfTwoPoints call) {
        for (int far : outside(-99, 99)) {
            refused(BEYOND, Boundaries::rich, w -> call.on(w, far, 60, 61, 61));
            refused(BEYOND, Boundaries::rich, w -> call.on(w, 60, far, 61, 61));
            refused(BEYOND, Boundaries::rich, w -> call.on(w, 60, 60, far, 61));
            refused(BEYOND, Boundaries::rich, w -> call.on(w, 60, 60, 61, far));
        }
    }

    /** Numbers that aren't from least to most: the first on both sides, and the farthest. */
    static int[] outside(int least, int most) {
        return new int[] {least - 1, most + 1, LEAST, MOST};
    }

    private void refused(int k, long answer, boolean keepsBlame, Supplier<WalledFields> maker, ToLongFunction<WalledFields> call) {
        WalledFields other = maker.get();
        WalledFields w = maker.get();
        long[] before = statusOf(w);
        due(answer, call.applyAsLong(w));
        due(answer, call.applyAsLong(w));
        before[k] += 2;
        before[8] += 2;
        dueAll(before, statusOf(w));
        List<String> was = allOf(other, keepsBlame);
        List<String> is = allOf(w, keepsBlame);
        asked++;
        for (int n = 0; n < Math.min(was.size(), is.size()); n++) {
            if (!was.get(n).equals(is.get(n))) {
                wrong.add(place() + "a refused call left " + is.get(n) + ", it was " + was.get(n));
                return;
            }
        }
        due(was.size(), is.size());
    }

    /** What status() counts of each finding, and all together. */
    static long[] statusOf(WalledFields w) {
        long[] counts = new long[9];
        for (int k = 0; k < 8; k++) {
            counts[k] = w.status(k);
        }
        counts[8] = w.status(-1);
        return counts;
    }

    /** Exactly these findings have been answered: so many of each. */
    void dueStatus(WalledFields w, long... counts) {
        long[] want = new long[9];
        for (int k = 0; k < counts.length; k++) {
            want[k] = counts[k];
            want[8] += counts[k];
        }
        dueAll(want, statusOf(w));
    }

    /** All that calls can tell of an object but status(); the object isn't what it was behind this. */
    static List<String> allOf(WalledFields w, boolean withBlame) {
        List<String> all = new ArrayList<>();
        for (int what = 0; what < 3 && withBlame; what++) {
            all.add("blame(" + what + ") " + w.blame(what));
        }
        addLand(all, w);
        addRows(all, w);
        for (int spot = 0; spot < 10; spot++) {
            for (int as : new int[] {0, 1, 6, 7}) {
                all.add("taken(" + spot + ", " + as + ") " + w.taken(spot, as));
            }
        }
        addSheets(all, w);
        addTape(all, w);
        all.add("back() " + w.back());
        addLand(all, w);
        return all;
    }

    private static void addLand(List<String> all, WalledFields w) {
        for (int what = 0; what < 6; what++) {
            all.add("count(" + what + ") " + w.count(what));
        }
        all.add("LEDGER " + w.book(0, 0));
        for (int i = 0; i < w.count(0); i++) {
            for (int what = 0; what < 6; what++) {
                all.add("of(" + i + ", " + what + ") " + w.of(i, what));
            }
        }
        for (int what = 0; what < 4; what++) {
            all.add("many(" + what + ") " + w.many(what));
        }
        all.add("depth " + w.depth(0) + " " + w.depth(1));
        all.add("best() " + w.best());
    }

    private static void addRows(List<String> all, WalledFields w) {
        all.add("judge() " + w.judge());
        int rows = w.count(3);
        for (int k = 0; k < rows; k++) {
            for (int what = 0; what < 4; what++) {
                all.add("row(" + k + ", " + what + ") " + w.row(k, what));
            }
        }
    }

    private static void addSheets(List<String> all, WalledFields w) {
        for (int s = 0; s < 4; s++) {
            long item = 0;
            for (int i = 0; i <= 40 && item > longFinding(0); i++) {
                item = w.item(s, i);
                all.add("item(" + s + ", " + i + ") " + item);
            }
            // Which sort it is of: what is left of a number that is no byte and no int.
            all.add("write(" + s + ", 0, ..) " + w.write(s, 0, 0x100000180L) + " " + w.item(s, 0));
        }
    }

    /** The tape of rich() lacks its last NUMBER. */
    private static void addTape(List<String> all, WalledFields w) {
        all.add("feed(' 3', 2) " + w.feed(0x2033, 2));
        all.add("text() " + w.text() + ", then TIDE " + w.count(1));
    }

    // ---- an object to try refused calls on

    /** Something of all there is: walls, TIDE, LEDGER, z, THE BLAME, SHEETS, SPOTS, ROWS, THE TAPE, something kept. */
    static WalledFields rich() {
        WalledFields w = new WalledFields();
        w.segment(3, 0, 0, 10, 0);
        w.tide(1);
        w.image();
        w.segment(12, 2, 5, 8, 5);
        w.segment(24, 20, -5, 20, 5);
        w.tide(2);
        w.book(0, 1L << 40);
        w.seed(77);
        w.segment(0, 5, 7, 5, 3);
        w.prove();
        w.alter(1, 1, 9);
        w.hold(0, 5, 1);
        w.hold(1, 2, 5);
        w.hold(2, 5, 5);
        for (int s = 0; s < 3; s++) {
            w.sheet(s, s, 3 + s);
            w.write(s, 0, 5 + s);
            w.write(s, 1, -7);
            w.write(s, 2 + s, 9);
        }
        w.feed(0x74696465, 4);
        return w;
    }

    /** As rich(), with as many walls as there may be. */
    static WalledFields richAndFull() {
        WalledFields w = rich();
        w.segment(31, 40, 0, 50, 0);
        w.segment(42, 40, 10, 50, 10);
        w.segment(53, 40, 20, 50, 20);
        return w;
    }
}
