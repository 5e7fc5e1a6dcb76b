/** Boundary cases of promises 36 to 41: sheet, write, item, copy, hold, taken. */
final class SheetBoundaries extends Boundaries {
    private static final int[] NO_SHEETS = outside(0, 3);
    private static final long[] LONGS = {0, 1, -1, 127, 128, -128, -129, 255, 256, MOST, MOST + 1L, LEAST, LEAST - 1L, 1L << 32, Long.MAX_VALUE, Long.MIN_VALUE, longFinding(BEYOND)};

    // ---- sheet

    @Says(words = "SHEETS 0 to 3: rows of bytes (sort 0), ints (1), longs (2), at most 40 numbers, or MISSING (at first).")
    void fourSheetsOfFortyNumbers() {
        WalledFields w = empty();
        for (int s = 0; s < 4; s++) {
            due(longFinding(MISSING), w.item(s, 0));
            due(40, w.sheet(s, s % 3, 40));
            due(1, w.write(s, 39, 1L << 40 | 1 << 20 | 3 + s));
            due(longFinding(BEYOND), w.item(s, 40));
        }
        dueAll(row(3, 1 << 20 | 4, 1L << 40 | 1 << 20 | 5, 6), w.item(0, 39), w.item(1, 39), w.item(2, 39), w.item(3, 39));
    }

    @Says(promise = 36, words = "A SHEET becomes a row of n numbers of a sort, all 0, or MISSING (sort -1; n doesn't count): n (0).")
    void fromNoNumberToForty() {
        for (int sort = 0; sort < 3; sort++) {
            for (int n : new int[] {0, 1, 39, 40}) {
                WalledFields w = rich();
                due(n, w.sheet(2, sort, n));
                for (int i = 0; i < n; i++) due(0, w.item(2, i));
                due(longFinding(BEYOND), w.item(2, n));
            }
        }
        // What was written is gone, also where the row was shorter in between.
        WalledFields w = empty();
        w.sheet(0, 2, 40);
        for (int i = 0; i < 40; i++) w.write(0, i, 7);
        w.sheet(0, 2, 1);
        w.sheet(0, 2, 40);
        for (int i = 0; i < 40; i++) due(0, w.item(0, i));
        for (int n : new int[] {0, -1, 40, 41, LEAST, MOST}) {
            WalledFields gone = rich();
            long[] before = statusOf(gone);
            due(0, gone.sheet(2, -1, n));
            dueAll(before, statusOf(gone));
            due(longFinding(MISSING), gone.item(2, 0));
            due(0, gone.sheet(2, -1, n));
        }
    }

    @Says(promise = 36, words = "BEYOND: no such SHEET, sort.")
    void noSuchSheetOrSort() {
        for (int s : NO_SHEETS) {
            refused(BEYOND, Boundaries::rich, w -> w.sheet(s, 0, 3));
            refused(BEYOND, Boundaries::rich, w -> w.sheet(s, -1, 3));
            refused(BEYOND, Boundaries::rich, w -> w.sheet(s, 0, -1));
        }
        for (int sort : outside(-1, 2)) {
            refused(BEYOND, Boundaries::rich, w -> w.sheet(0, sort, 3));
            refused(BEYOND, Boundaries::rich, w -> w.sheet(0, sort, -1));
            refused(BEYOND, Boundaries::rich, w -> w.sheet(3, sort, 0));
        }
    }

    @Says(promise = 36, words = "SIZE: n is below 0.")
    void aRowOfLessThanNone() {
        for (int n : new int[] {-1, -40, LEAST}) {
            for (int sort = 0; sort < 3; sort++) {
                int of = sort;
                refused(SIZE, Boundaries::rich, w -> w.sheet(0, of, n));
                refused(SIZE, Boundaries::rich, w -> w.sheet(3, of, n));
            }
        }
    }

    @Says(promise = 36, words = "BEYOND: above 40.")
    void aRowOfMoreThanForty() {
        for (int n : new int[] {41, 80, MOST}) {
            for (int sort = 0; sort < 3; sort++) {
                int of = sort;
                refused(BEYOND, Boundaries::rich, w -> w.sheet(1, of, n));
                refused(BEYOND, Boundaries::rich, w -> w.sheet(3, of, n));
            }
        }
    }

    // ---- write

    @Says(promise = 37, words = "Number i of it becomes v (its lowest bits): 1.")
    void numbersGoRound() {
        WalledFields w = empty();
        for (int sort = 0; sort < 3; sort++) w.sheet(sort, sort, 40);
        for (int k = 0; k < LONGS.length; k++) {
            dueAll(row(1, 1, 1), w.write(0, 39 - k, LONGS[k]), w.write(1, k, LONGS[k]), w.write(2, k, LONGS[k]));
            dueAll(row((byte) LONGS[k], (int) LONGS[k], LONGS[k]), w.item(0, 39 - k), w.item(1, k), w.item(2, k));
        }
        dueAll(row(-128, 127, -1, 0), rich(0, 128), rich(0, -129), rich(0, 255), rich(0, 256));
        dueAll(row(LEAST, MOST, -1, 0), rich(1, MOST + 1L), rich(1, LEAST - 1L), rich(1, 0xffffffffL), rich(1, 1L << 32));
        dueStatus(w);
    }

    /** What is left of a number in a row of a sort. */
    private static long rich(int sort, long v) {
        WalledFields w = rich();
        w.write(sort, 1, v);
        return w.item(sort, 1);
    }

    @Says(promise = 37, words = "BEYOND: no such SHEET.")
    void writeToNoSheet() {
        for (int s : NO_SHEETS) refused(BEYOND, Boundaries::rich, w -> w.write(s, 0, 1));
        for (int s : NO_SHEETS) refused(BEYOND, Boundaries::empty, w -> w.write(s, 0, 1));
    }

    @Says(promise = 37, words = "MISSING.")
    void writeToAMissingSheet() {
        for (int i : new int[] {0, -1, 40, LEAST, MOST}) refused(MISSING, Boundaries::rich, w -> w.write(3, i, 1));
        for (int s = 0; s < 4; s++) {
            int sheet = s;
            refused(MISSING, Boundaries::empty, w -> w.write(sheet, 0, 1));
        }
    }

    @Says(promise = 37, words = "BEYOND: no such number.")
    void writeBehindTheLastNumber() {
        for (int s = 0; s < 3; s++) {
            int sheet = s;
            for (int i : new int[] {-1, 3 + s, 40, LEAST, MOST}) refused(BEYOND, Boundaries::rich, w -> w.write(sheet, i, 1));
            due(1, rich().write(s, 2 + s, 1));
            due(1, rich().write(s, 0, 1));
        }
        refused(BEYOND, SheetBoundaries::oneOfNoNumbers, w -> w.write(3, 0, 1));
    }

    private static WalledFields oneOfNoNumbers() {
        WalledFields w = rich();
        w.sheet(3, 2, 0);
        return w;
    }

    // ---- item

    @Says(promise = 38, words = "Number i of it.")
    void theFirstNumberAndTheLast() {
        WalledFields w = rich();
        dueAll(row(5, -7, 9), w.item(0, 0), w.item(0, 1), w.item(0, 2));
        dueAll(row(6, -7, 0, 9), w.item(1, 0), w.item(1, 1), w.item(1, 2), w.item(1, 3));
        dueAll(row(7, -7, 0, 0, 9), w.item(2, 0), w.item(2, 1), w.item(2, 2), w.item(2, 3), w.item(2, 4));
        // A number may look like a finding; it is none.
        long[] before = statusOf(w);
        w.write(2, 4, longFinding(OVER));
        due(longFinding(OVER), w.item(2, 4));
        dueAll(before, statusOf(w));
    }

    @Says(promise = 38, words = "BEYOND, MISSING, BEYOND likewise.")
    void itemIsRefused() {
        for (int s : NO_SHEETS) {
            refusedLong(BEYOND, Boundaries::rich, w -> w.item(s, 0));
            refusedLong(BEYOND, Boundaries::empty, w -> w.item(s, 0));
        }
        for (int i : new int[] {0, -1, 40, LEAST, MOST}) refusedLong(MISSING, Boundaries::rich, w -> w.item(3, i));
        for (int s = 0; s < 3; s++) {
            int sheet = s;
            for (int i : new int[] {-1, 3 + s, 40, LEAST, MOST}) refusedLong(BEYOND, Boundaries::rich, w -> w.item(sheet, i));
        }
        refusedLong(BEYOND, SheetBoundaries::oneOfNoNumbers, w -> w.item(3, 0));
    }

    // ---- copy

    /** SHEETS 0 and 1 of ints 10, 11, .. and 20, 21, .., 2 of longs, 3 MISSING. */
    private static WalledFields toCopy() {
        WalledFields w = empty();
        w.sheet(0, 1, 5);
        w.sheet(1, 1, 3);
        w.sheet(2, 2, 5);
        for (int i = 0; i < 5; i++) w.write(0, i, 10 + i);
        for (int i = 0; i < 3; i++) w.write(1, i, 20 + i);
        return w;
    }

    private static long[] itemsOf(WalledFields w, int s, int n) {
        long[] items = new long[n];
        for (int i = 0; i < n; i++) items[i] = w.item(s, i);
        return items;
    }

    @Says(promise = 39, words = "n numbers of a SHEET from i on come to another one (or the same) from j on, as they all were: n.")
    void asTheyAllWere() {
        WalledFields w = toCopy();
        due(4, w.copy(0, 0, 0, 1, 4));
        dueAll(row(10, 10, 11, 12, 13), itemsOf(w, 0, 5));
        w = toCopy();
        due(4, w.copy(0, 1, 0, 0, 4));
        dueAll(row(11, 12, 13, 14, 14), itemsOf(w, 0, 5));
        w = toCopy();
        due(5, w.copy(0, 0, 0, 0, 5));
        dueAll(row(10, 11, 12, 13, 14), itemsOf(w, 0, 5));
        due(3, w.copy(1, 0, 0, 2, 3));
        dueAll(row(10, 11, 20, 21, 22), itemsOf(w, 0, 5));
        due(3, w.copy(0, 0, 1, 0, 3));
        dueAll(row(10, 11, 20), itemsOf(w, 1, 3));
        dueAll(row(0, 0, 0, 0), w.copy(0, 0, 1, 0, 0), w.copy(0, 5, 1, 3, 0), w.copy(0, 5, 0, 5, 0), w.copy(2, 0, 2, 5, 0));
        dueAll(row(10, 11, 20), itemsOf(w, 1, 3));
        dueStatus(w);
        WalledFields most = empty();
        most.sheet(0, 2, 40);
        most.sheet(1, 2, 40);
        for (int i = 0; i < 40; i++) most.write(0, i, 1000000000000L * i);
        due(40, most.copy(0, 0, 1, 0, 40));
        for (int i = 0; i < 40; i++) due(1000000000000L * i, most.item(1, i));
    }

    @Says(promise = 39, words = "BEYOND: no such SHEET (either).")
    void copyOfNoSheet() {
        for (int s : NO_SHEETS) {
            refused(BEYOND, SheetBoundaries::toCopy, w -> w.copy(s, 0, 0, 0, 1));
            refused(BEYOND, SheetBoundaries::toCopy, w -> w.copy(0, 0, s, 0, 1));
            refused(BEYOND, SheetBoundaries::toCopy, w -> w.copy(s, 0, s, 0, 1));
            refused(BEYOND, SheetBoundaries::toCopy, w -> w.copy(3, 0, s, 0, 1));
            refused(BEYOND, SheetBoundaries::toCopy, w -> w.copy(s, 0, 3, 0, 1));
        }
    }

    @Says(promise = 39, words = "MISSING.")
    void copyOfAMissingSheet() {
        refused(MISSING, SheetBoundaries::toCopy, w -> w.copy(3, 0, 0, 0, 1));
        refused(MISSING, SheetBoundaries::toCopy, w -> w.copy(0, 0, 3, 0, 1));
        refused(MISSING, SheetBoundaries::toCopy, w -> w.copy(3, 0, 3, 0, 0));
        refused(MISSING, SheetBoundaries::toCopy, w -> w.copy(0, -1, 3, -1, -1));
        refused(MISSING, Boundaries::empty, w -> w.copy(0, 0, 1, 0, 0));
    }

    @Says(promise = 39, words = "KIND: unlike sorts.")
    void copyOfUnlikeSorts() {
        for (int s = 0; s < 3; s++) {
            for (int t = 0; t < 3; t++) {
                int from = s, to = t;
                if (s != t) {
                    refused(KIND, Boundaries::rich, w -> w.copy(from, 0, to, 0, 1));
                    refused(KIND, Boundaries::rich, w -> w.copy(from, 0, to, 0, 0));
                    refused(KIND, Boundaries::rich, w -> w.copy(from, -1, to, 99, -1));
                }
            }
        }
        // SHEETS of no numbers are of a sort too.
        WalledFields w = empty();
        w.sheet(0, 0, 0);
        w.sheet(1, 1, 0);
        w.sheet(2, 0, 0);
        dueAll(row(finding(KIND), 0), w.copy(0, 0, 1, 0, 0), w.copy(0, 0, 2, 0, 0));
    }

    @Says(promise = 39, words = "BEYOND: one has not so many, or i, j, n is below 0.")
    void copyOfTooMany() {
        int[][] wrong = {
            {0, 0, 0, 0, 6}, {0, 1, 0, 0, 5}, {0, 0, 0, 1, 5}, {0, 0, 1, 0, 4}, {1, 0, 0, 0, 4}, {0, 0, 1, 1, 3}, {1, 1, 0, 0, 3}, {0, 6, 0, 0, 0}, {0, 0, 0, 6, 0},
            {0, 5, 0, 0, 1}, {0, 0, 1, 3, 1}, {0, -1, 0, 0, 1}, {0, 0, 0, -1, 1}, {0, 0, 0, 0, -1}, {0, -1, 0, 0, 0}, {0, 0, 0, -1, 0}, {0, LEAST, 0, 0, 1},
            {0, 0, 0, LEAST, 1}, {0, 0, 0, 0, LEAST}, {0, MOST, 0, 0, 1}, {0, 0, 0, MOST, 1}, {0, 0, 0, 0, MOST}, {0, MOST, 0, 0, MOST}, {0, 1, 0, MOST, MOST},
            {0, MOST, 0, MOST, 2}, {0, LEAST, 0, LEAST, LEAST}, {0, -1, 0, 0, 2},
        };
        for (int[] p : wrong) refused(BEYOND, SheetBoundaries::toCopy, w -> w.copy(p[0], p[1], p[2], p[3], p[4]));
        dueAll(row(5, 3, 1), toCopy().copy(0, 0, 0, 0, 5), toCopy().copy(0, 2, 1, 0, 3), toCopy().copy(0, 4, 1, 2, 1));
    }

    // ---- hold, taken

    @Says(words = "SPOTS 0 to 9 hold nothing (at first), or what was asked.")
    void tenSpots() {
        WalledFields w = two();
        for (int spot = 0; spot < 10; spot++) {
            due(finding(MISSING), w.taken(spot, 6));
            due(spot, w.count(4));
            due(1, w.hold(spot, 0, 0));
            due(0, w.taken(spot, 7));
        }
        due(10, w.count(4));
    }

    @Says(promise = 40, words = "A SPOT holds what a POINT is in: its CELL, its END (as it lies), or the SEGMENT by its number: 1.")
    void theLatestIsHeld() {
        WalledFields w = two();
        dueAll(row(1, 6, finding(KIND)), w.hold(9, 99, 99), w.taken(9, 6), w.taken(9, 7));
        dueAll(row(1, 10000, finding(KIND)), w.hold(9, 10, 0), w.taken(9, 7), w.taken(9, 6));
        dueAll(row(1, 1, finding(KIND)), w.hold(9, 5, 5), w.taken(9, 0), w.taken(9, 7));
        dueAll(row(1, 0, 1), w.hold(9, -99, -99), w.taken(9, 6), w.count(4));
        // An END as it lies: also when no SEGMENT has it any more.
        w.hold(0, 2, 5);
        w.move(1, 3, 5, 8, 5);
        due(2005, w.taken(0, 7));
        // A SEGMENT by its number: also when another one has got that.
        w.hold(1, 5, 5);
        w.renumber(1);
        due(1, w.taken(1, 0));
        w.become(1, 50);
        due(1, w.taken(1, 5));
        w.drop();
        due(finding(MISSING), w.taken(1, 0));
        w.segment(30, 50, 50, 60, 60);
        due(1, w.taken(1, 3));
    }

    @Says(promise = 40, words = "BEYOND.")
    void holdIsRefused() {
        for (int spot : outside(0, 9)) refused(BEYOND, Boundaries::rich, w -> w.hold(spot, 0, 0));
        refusedBeyond((w, x, y) -> w.hold(0, x, y));
        refusedBeyond((w, x, y) -> w.hold(9, x, y));
    }

    @Says(promise = 41, words = "as an END (7): 1000 times x, and y;")
    void endsOfTheFarthestPoints() {
        int[][] points = {{-99, -99, -99099}, {-99, 99, -98901}, {99, -99, 98901}, {99, 99, 99099}, {0, -1, -1}, {0, 0, 0}, {1, 0, 1000}, {-1, 1, -999}};
        for (int[] p : points) {
            WalledFields w = empty();
            w.segment(0, p[0], p[1], 50, 50);
            w.hold(0, p[0], p[1]);
            due(p[2], w.taken(0, 7));
            w.drop();
            due(p[2], w.taken(0, 7));
        }
    }

    @Says(promise = 41, words = "the number of its FIELD when it was asked;")
    void theFieldWhenItWasAsked() {
        WalledFields w = stack();
        w.hold(0, 99, 99);
        w.hold(1, -99, -99);
        dropAll(w);
        dueAll(row(18, 0, 2), w.taken(0, 6), w.taken(1, 6), w.count(4));
    }

    @Says(promise = 41, words = "as a SEGMENT of a KIND (as 0 to 5), or of one under it: its number, as it is now.")
    void asItIsNow() {
        WalledFields w = stack();
        w.hold(0, 1, 50);
        w.hold(1, 1, 0);
        dueAll(row(5, 5, 0), w.taken(0, 5), w.taken(0, 0), w.taken(1, 0));
        due(finding(KIND), w.taken(1, 1));
        w.become(5, 30);
        dueAll(row(5, 5, 5, finding(KIND)), w.taken(0, 3), w.taken(0, 1), w.taken(0, 0), w.taken(0, 5));
        w.become(5, 40);
        dueAll(row(5, 5, 5, finding(KIND)), w.taken(0, 4), w.taken(0, 2), w.taken(0, 0), w.taken(0, 3));
    }

    @Says(promise = 41, words = "BEYOND.")
    void takenBeyond() {
        for (int spot : outside(0, 9)) refused(BEYOND, Boundaries::rich, w -> w.taken(spot, 6));
        for (int as : outside(0, 7)) {
            refused(BEYOND, Boundaries::rich, w -> w.taken(0, as));
            refused(BEYOND, Boundaries::rich, w -> w.taken(9, as));
        }
    }

    @Says(promise = 41, words = "MISSING: nothing, or a SEGMENT of which there is none such now.")
    void takenMissing() {
        for (int as = 0; as < 8; as++) {
            int sort = as;
            refused(MISSING, Boundaries::rich, w -> w.taken(3, sort));
            refused(MISSING, Boundaries::empty, w -> w.taken(9, sort));
            refused(MISSING, SheetBoundaries::goneSegment, w -> w.taken(2, sort));
        }
        WalledFields w = goneSegment();
        due(2, w.count(4));
        w.segment(0, 60, 60, 61, 61);
        dueAll(row(1, 3), w.taken(2, 0), w.count(4));
        // It comes again with what was kept.
        w = stack();
        w.image();
        w.hold(0, 1, 50);
        w.drop();
        due(finding(MISSING), w.taken(0, 5));
        w.back();
        due(5, w.taken(0, 5));
    }

    /** rich() holds SEGMENT 1 in SPOT 2. */
    private static WalledFields goneSegment() {
        WalledFields w = rich();
        w.drop();
        w.drop();
        return w;
    }

    @Says(promise = 41, words = "KIND: it is another thing.")
    void takenAsAnotherThing() {
        for (int as : new int[] {0, 1, 2, 3, 4, 5, 7}) refused(KIND, Boundaries::rich, w -> w.taken(0, as));
        for (int as : new int[] {0, 1, 2, 3, 4, 5, 6}) refused(KIND, Boundaries::rich, w -> w.taken(1, as));
        for (int as : new int[] {2, 3, 4, 5, 6, 7}) refused(KIND, Boundaries::rich, w -> w.taken(2, as));
        dueAll(row(3, 2005, 1, 1), rich().taken(0, 6), rich().taken(1, 7), rich().taken(2, 0), rich().taken(2, 1));
    }
}
