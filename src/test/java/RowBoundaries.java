import java.util.Arrays;

/** Boundary cases of promises 25 to 32: asks, loose, book, seed, prove, row, alter, judge. */
final class RowBoundaries extends Boundaries {
    private static final int[] NO_SHEETS = outside(0, 3);

    /** As two(), with a SHEET 0 of these numbers. */
    private static WalledFields asking(int sort, long... numbers) {
        WalledFields w = two();
        w.sheet(0, sort, numbers.length);
        for (int i = 0; i < numbers.length; i++) w.write(0, i, numbers[i]);
        return w;
    }

    // ---- asks

    @Says(promise = 25, words = "Numbers of a SHEET, two by two (one at its end doesn't count), are POINTS;")
    void twoByTwo() {
        long[] points = {0, 0, 5, 1, 5, 0, 7};
        int[] came = {0, 0, 1, 1, 2, 2, 3, 3};
        for (int n = 0; n <= 7; n++) {
            WalledFields w = asking(1, Arrays.copyOf(points, n));
            w.sheet(1, 1, 9);
            for (int i = 0; i < 9; i++) w.write(1, i, 77);
            due(came[n], w.asks(0, 1));
            long[] answers = {100, 3, 200};
            for (int i = 0; i < 9; i++) due(i < came[n] ? answers[i] : 77, w.item(1, i));
            for (int i = 0; i < n; i++) due(points[i], w.item(0, i));
        }
        WalledFields w = asking(0, new long[40]);
        w.sheet(1, 0, 40);
        due(20, w.asks(0, 1));
        dueAll(row(100, 100, 0), w.item(1, 0), w.item(1, 19), w.item(1, 20));
        w = asking(0, new long[39]);
        w.sheet(1, 0, 40);
        due(19, w.asks(0, 1));
    }

    @Says(promise = 25, words = "what at() tells of each comes to another one (its lowest bits), as far as that has numbers: how many came.")
    void asFarAsThereIsRoomForAnswers() {
        for (int room = 0; room <= 4; room++) {
            WalledFields w = asking(2, 5, 0, 3, 5, 8, 5);
            w.sheet(1, 2, room);
            due(Math.min(3, room), w.asks(0, 1));
            long[] answers = {200, 201, 102, 0};
            for (int i = 0; i < room; i++) due(answers[i], w.item(1, i));
        }
        // As bytes 128 and more come round.
        WalledFields w = asking(2, 5, 0, 3, 5, 8, 5, 5, 1);
        w.sheet(1, 0, 4);
        due(4, w.asks(0, 1));
        dueAll(row(-56, -55, 102, 3), w.item(1, 0), w.item(1, 1), w.item(1, 2), w.item(1, 3));
        dueStatus(w);
    }

    @Says(promise = 25, words = "comes to another one (its lowest bits)")
    void answersComeToTheSameSheet() {
        WalledFields w = asking(1, 5, 0, 3, 5, 8, 5, 5, 1, -99, 99);
        due(5, w.asks(0, 0));
        dueAll(row(200, 201, 102, 3, 0, 5, 5, 1, -99, 99), w.item(0, 0), w.item(0, 1), w.item(0, 2), w.item(0, 3), w.item(0, 4),
            w.item(0, 5), w.item(0, 6), w.item(0, 7), w.item(0, 8), w.item(0, 9));
        due(0, w.asks(0, 0));
    }

    @Says(promise = 25, words = "It ends at a number that isn't -99 to 99.")
    void endsAtNoCoordinate() {
        for (long far : new long[] {-100, 100, LEAST, MOST, Long.MIN_VALUE, Long.MAX_VALUE, 1L << 32, -1L << 32}) {
            WalledFields w = asking(2, -99, 99, 99, -99, 5, far, 5, 0);
            w.sheet(1, 2, 9);
            w.write(1, 2, 77);
            due(2, w.asks(0, 1));
            dueAll(row(0, 6, 77, 0), w.item(1, 0), w.item(1, 1), w.item(1, 2), w.item(1, 3));
            w.write(0, 5, 1);
            due(4, w.asks(0, 1));
            w.write(0, 4, far);
            due(2, w.asks(0, 1));
            w.write(0, 0, far);
            due(0, w.asks(0, 1));
            dueStatus(w);
        }
        for (int far : new int[] {-100, 100, -128, 127}) {
            WalledFields w = asking(0, far, 0);
            w.sheet(1, 0, 9);
            due(0, w.asks(0, 1));
        }
    }

    @Says(promise = 25, words = "BEYOND: no such SHEET (either).")
    void asksOfNoSheet() {
        for (int s : NO_SHEETS) {
            refused(BEYOND, Boundaries::rich, w -> w.asks(s, 0));
            refused(BEYOND, Boundaries::rich, w -> w.asks(0, s));
            refused(BEYOND, Boundaries::rich, w -> w.asks(s, s));
            refused(BEYOND, Boundaries::rich, w -> w.asks(3, s));
            refused(BEYOND, Boundaries::rich, w -> w.asks(s, 3));
        }
    }

    @Says(promise = 25, words = "MISSING.")
    void asksOfAMissingSheet() {
        refused(MISSING, Boundaries::rich, w -> w.asks(3, 0));
        refused(MISSING, Boundaries::rich, w -> w.asks(0, 3));
        refused(MISSING, Boundaries::rich, w -> w.asks(3, 3));
        refused(MISSING, Boundaries::empty, w -> w.asks(0, 1));
        // A SHEET of no numbers isn't MISSING.
        WalledFields w = rich();
        w.sheet(3, 0, 0);
        dueAll(row(0, 0, 0), w.asks(3, 0), w.asks(0, 3), w.asks(3, 3));
    }

    // ---- draws, loose

    private static int drawn(int z) {
        return (int) ((z * 1103515245L + 12345L) & 0xffffffffL);
    }

    private static int coordinate(int z) {
        return (int) (((z & 0xffffffffL) >> 8) % 199) - 99;
    }

    @Says(words = "DRAWS: z is told (1 at first); each makes it z * 1103515245 + 12345 (an int), and gives z >>> 8.")
    void aDrawGoesRound() {
        for (int seed : new int[] {1, 0, -1, LEAST, MOST, 2, 3, 1 << 30, -12345}) {
            WalledFields w = two();
            if (seed != 1) w.seed(seed);
            int z = seed;
            for (int k = 0; k < 20; k++) {
                int first = drawn(z);
                z = drawn(first);
                int x = coordinate(first), y = coordinate(z);
                due(1, x >= -99 && x <= 99 && y >= -99 && y <= 99 ? 1 : 0);
                long was = w.book(0, 0);
                boolean isHeld = w.at(x, y) < 100;
                due(isHeld ? 1 : 0, w.loose(1));
                due(z, w.count(2));
                due(was + (isHeld ? w.steps(x, y) : 1), w.book(0, 0));
            }
        }
        WalledFields w = empty();
        w.loose(1);
        due(drawn(drawn(1)), w.count(2));
    }

    @Says(promise = 26, words = "n times (1 to 20) two draws: x and y of a POINT are their rests by 199 less 99;")
    void fromOneDrawToTwenty() {
        for (int n : new int[] {1, 2, 19, 20}) {
            WalledFields w = two();
            WalledFields one = two();
            int held = 0;
            for (int k = 0; k < n; k++) held += one.loose(1);
            due(held, w.loose(n));
            due(one.count(2), w.count(2));
            due(one.count(6), w.count(6));
        }
    }

    @Says(promise = 26, words = "LEDGER is more by its STEPS (by 1, if it is an END, or on a SEGMENT): how many of them a FIELD HOLDS.")
    void drawsOnAWall() {
        // The first two draws of a new object are (16, 94).
        dueAll(row(16, 94), coordinate(drawn(1)), coordinate(drawn(drawn(1))));
        int[][] walls = {{16, 94, 20, 94, 0, 1}, {10, 94, 16, 94, 0, 1}, {10, 94, 20, 94, 0, 1}, {16, 93, 16, 95, 0, 1}, {16, 94, 16, 95, 0, 1},
            {10, -99, 20, -99, 1, 3}, {10, 99, 20, 99, 1, 3}, {17, 94, 20, 94, 1, 1}, {10, 94, 15, 94, 1, 2}, {16, 95, 16, 96, 1, 1}, {16, 92, 16, 93, 1, 2}};
        for (int[] p : walls) {
            WalledFields w = empty();
            w.segment(0, p[0], p[1], p[2], p[3]);
            due(p[4], w.loose(1));
            due(p[5], w.count(6));
        }
        WalledFields w = empty();
        due(20, w.loose(20));
        due(0, w.count(6));
    }

    @Says(promise = 26, words = "BEYOND.")
    void looseIsRefused() {
        for (int n : new int[] {0, 21, -1, LEAST, MOST}) refused(BEYOND, Boundaries::rich, w -> w.loose(n));
    }

    @Says(promise = 26, words = "OVER: LEDGER would be no long in any of them.")
    void theLedgerJustHoldsIt() {
        for (int n : new int[] {1, 20}) {
            WalledFields counted = two();
            counted.loose(n);
            long steps = counted.count(6);
            due(1, steps > 0 ? 1 : 0);
            WalledFields w = two();
            w.book(0, Long.MAX_VALUE - steps);
            due(heldOf(n), w.loose(n));
            due(Long.MAX_VALUE, w.book(0, 0));
            refused(OVER, () -> ledgerOf(Long.MAX_VALUE - steps + 1), fields -> fields.loose(n));
            refused(OVER, () -> ledgerOf(Long.MAX_VALUE), fields -> fields.loose(n));
            w = ledgerOf(Long.MIN_VALUE);
            w.loose(n);
            due(Long.MIN_VALUE + steps, w.book(0, 0));
        }
        // Where there are no walls there are no STEPS.
        WalledFields w = empty();
        w.book(0, Long.MAX_VALUE);
        due(20, w.loose(20));
        due(Long.MAX_VALUE, w.book(0, 0));
    }

    private static int heldOf(int n) {
        return two().loose(n);
    }

    private static WalledFields ledgerOf(long ledger) {
        WalledFields w = two();
        w.book(0, ledger);
        return w;
    }

    // ---- book

    @Says(words = "LEDGER (a long; 0 at first).")
    void theLedgerIsALong() {
        WalledFields w = empty();
        due(0, w.book(0, 0));
        due(Long.MAX_VALUE, w.book(0, Long.MAX_VALUE));
        due(-1, w.book(0, Long.MIN_VALUE));
        due(Long.MIN_VALUE, w.book(0, -Long.MAX_VALUE));
        dueStatus(w);
    }

    @Says(promise = 27, words = "LEDGER becomes v more (what 0), v times it (1): LEDGER then.")
    void theGreatestSumsAndProducts() {
        long[][] sums = {{Long.MAX_VALUE, 0}, {Long.MAX_VALUE - 1, 1}, {Long.MAX_VALUE, Long.MIN_VALUE}, {Long.MIN_VALUE, 0}, {Long.MIN_VALUE + 1, -1},
            {Long.MIN_VALUE, Long.MAX_VALUE}, {-1, Long.MIN_VALUE + 1}, {0, Long.MIN_VALUE}, {1, Long.MAX_VALUE - 1}, {-1, Long.MAX_VALUE}};
        for (long[] p : sums) due(p[0] + p[1], ledgerOf(p[0]).book(0, p[1]));
        long[][] products = {{Long.MAX_VALUE, 1}, {Long.MAX_VALUE, -1}, {Long.MIN_VALUE, 1}, {1, Long.MIN_VALUE}, {Long.MAX_VALUE, 0}, {0, Long.MIN_VALUE},
            {0, -1}, {-1, Long.MAX_VALUE}, {Long.MIN_VALUE / 2, 2}, {2, Long.MIN_VALUE / 2}, {Long.MAX_VALUE / 2, 2}, {1L << 31, 1L << 31}, {-1L << 32, 1L << 31},
            {3037000499L, 3037000499L}, {-3037000499L, 3037000499L}, {Long.MIN_VALUE, 0}, {-7, -1}};
        for (long[] p : products) due(p[0] * p[1], ledgerOf(p[0]).book(1, p[1]));
    }

    @Says(promise = 27, words = "BEYOND.")
    void bookIsRefused() {
        for (int what : outside(0, 1)) {
            refusedLong(BEYOND, Boundaries::rich, w -> w.book(what, 1));
            refusedLong(BEYOND, Boundaries::rich, w -> w.book(what, Long.MAX_VALUE));
        }
    }

    @Says(promise = 27, words = "OVER: it would be no long.")
    void sumsAndProductsThatAreNoLongs() {
        long[][] sums = {{Long.MAX_VALUE, 1}, {1, Long.MAX_VALUE}, {Long.MIN_VALUE, -1}, {-1, Long.MIN_VALUE}, {Long.MAX_VALUE, Long.MAX_VALUE}, {Long.MIN_VALUE, Long.MIN_VALUE}};
        for (long[] p : sums) refusedLong(OVER, () -> ledgerOf(p[0]), w -> w.book(0, p[1]));
        long[][] products = {{Long.MIN_VALUE, -1}, {-1, Long.MIN_VALUE}, {Long.MAX_VALUE, 2}, {2, Long.MAX_VALUE}, {Long.MIN_VALUE, 2}, {1L << 32, 1L << 31}, {1L << 32, 1L << 32},
            {3037000500L, 3037000500L}, {-3037000500L, 3037000500L}, {Long.MIN_VALUE, Long.MIN_VALUE}, {Long.MIN_VALUE / 2, -2}, {-2, Long.MIN_VALUE / 2}, {Long.MAX_VALUE, Long.MIN_VALUE}};
        for (long[] p : products) refusedLong(OVER, () -> ledgerOf(p[0]), w -> w.book(1, p[1]));
        refusedLong(OVER, Boundaries::rich, w -> w.book(1, 1L << 23));
        refusedLong(OVER, Boundaries::rich, w -> w.book(0, Long.MAX_VALUE));
        due(Long.MIN_VALUE, rich().book(1, -1L << 23));
    }

    // ---- seed

    @Says(promise = 28, words = "z becomes v: what it was.")
    void anyIntIsASeed() {
        WalledFields w = empty();
        dueAll(row(1, LEAST, MOST, 0, -1, finding(BEYOND)), w.seed(LEAST), w.seed(MOST), w.seed(0), w.seed(-1), w.seed(finding(BEYOND)), w.seed(1));
        dueStatus(w);
    }

    // ---- ROWS OF FIELDS

    @Says(promise = 29, words = "ROWS OF FIELDS become all FIELDS, each as FLOOR, ROOF, BEGIN, CLOSE: how many.")
    void fromOneRowToNineteen() {
        WalledFields w = empty();
        due(0, w.count(3));
        due(1, w.prove());
        dueAll(row(1, -1, -1, -1, -1), w.count(3), w.row(0, 0), w.row(0, 1), w.row(0, 2), w.row(0, 3));
        w = stack();
        due(19, w.prove());
        for (int k = 0; k < 19; k++) {
            for (int what = 0; what < 4; what++) due(w.field(k, what), w.row(k, what));
        }
        // What was altered is told anew, and what there was more of is gone.
        w.alter(0, 0, 5);
        dropAll(w);
        due(19, w.count(3));
        due(1, w.prove());
        due(-1, w.row(0, 0));
        due(finding(BEYOND), w.row(1, 0));
    }

    @Says(words = "ROWS OF FIELDS: none at first.")
    void noRowsAtFirst() {
        WalledFields w = stack();
        due(0, w.count(3));
        due(finding(BEYOND), w.row(0, 0));
        due(finding(BEYOND), w.alter(0, 0, 0));
        due(1, w.judge());
        due(1, empty().judge());
    }

    @Says(promise = 30, words = "BEYOND.")
    void rowIsRefused() {
        for (int k : outside(0, 9)) refused(BEYOND, Boundaries::rich, w -> w.row(k, 0));
        for (int what : outside(0, 3)) refused(BEYOND, Boundaries::rich, w -> w.row(0, what));
        refused(BEYOND, Boundaries::stack, w -> w.row(0, 0));
        refused(BEYOND, RowBoundaries::provenStack, w -> w.row(19, 0));
        dueAll(row(-1, -1), rich().row(9, 3), provenStack().row(18, 3));
    }

    private static WalledFields provenStack() {
        WalledFields w = stack();
        w.prove();
        return w;
    }

    @Says(promise = 31, words = "It becomes v: what it was.")
    void anyIntMayStandInARow() {
        WalledFields w = provenStack();
        dueAll(row(-1, LEAST, MOST), w.alter(18, 3, LEAST), w.alter(18, 3, MOST), w.alter(18, 3, finding(BEYOND)));
        due(finding(BEYOND), w.row(18, 3));
        due(-1, w.alter(0, 0, 7));
        due(-1, w.field(0, 0));
        dueStatus(w);
    }

    @Says(promise = 31, words = "BEYOND.")
    void alterIsRefused() {
        for (int k : outside(0, 9)) refused(BEYOND, Boundaries::rich, w -> w.alter(k, 0, 5));
        for (int what : outside(0, 3)) refused(BEYOND, Boundaries::rich, w -> w.alter(0, what, 5));
        refused(BEYOND, Boundaries::empty, w -> w.alter(0, 0, 5));
        refused(BEYOND, RowBoundaries::provenStack, w -> w.alter(19, 0, 5));
    }

    @Says(promise = 32, words = "0: ROWS OF FIELDS are all FIELDS; else 1 and the first that isn't, lacks, or is too many.")
    void theFirstRowAtFault() {
        WalledFields w = empty();
        due(1, w.judge());
        w.prove();
        due(0, w.judge());
        // One that isn't: each number of the first, of the last one counts.
        w = provenStack();
        for (int k : new int[] {18, 9, 0}) {
            for (int what = 0; what < 4; what++) {
                int was = w.alter(k, what, 77);
                due(k + 1, w.judge());
                due(77, w.alter(k, what, was));
                due(0, w.judge());
            }
        }
        // One that lacks: ROWS of five walls, FIELDS of six that lie no otherwise up to then.
        w = two();
        w.prove();
        w.segment(0, 50, 0, 60, 0);
        due(7, w.judge());
        w.alter(6, 3, 4);
        due(8, w.judge());
        w.prove();
        due(0, w.judge());
        // One that is too many.
        w.drop();
        due(7, w.judge());
        w.alter(6, 3, -1);
        due(8, w.judge());
        w.alter(2, 0, 5);
        due(3, w.judge());
        dueStatus(w);
        // KIND, WIDTH, TIDE aren't in it.
        w = provenStack();
        w.become(0, 59);
        w.tide(3);
        due(0, w.judge());
        w.renumber(719);
        due(2, w.judge());
    }
}
