/** Boundary cases of promises 9 to 14: many, end, field, at, near, sight. */
final class FieldBoundaries extends Boundaries {
    private static final int[] NO_FIELDS = outside(0, 9);

    // ---- many

    @Says(promise = 9, words = "what 0 ENDS, 1 CELLS, 2 FIELDS, 3 twos of FIELDS one of which is over the other at a SEGMENT in any STRIP.")
    void fromNoneToAsManyAsThereMayBe() {
        WalledFields w = empty();
        dueAll(row(0, 1, 1, 0), w.many(0), w.many(1), w.many(2), w.many(3));
        w.segment(0, 99, -99, 99, 99);
        dueAll(row(2, 4, 4, 1), w.many(0), w.many(1), w.many(2), w.many(3));
        w = stack();
        dueAll(row(12, 49, 19), w.many(0), w.many(1), w.many(2));
        // Over each wall but the highest: up to where the next one begins, under it, from where it is behind it on.
        due(16, w.many(3));
        // Two FIELDS that are over one another in several STRIPS count once.
        w = new WalledFields();
        w.segment(0, 0, 0, 20, 0);
        w.segment(0, 0, 10, 20, 10);
        w.segment(0, 9, 20, 11, 20);
        dueAll(row(6, 16, 10, 7), w.many(0), w.many(1), w.many(2), w.many(3));
    }

    @Says(promise = 9, words = "BEYOND.")
    void manyIsRefused() {
        for (int what : outside(0, 3)) refused(BEYOND, Boundaries::rich, w -> w.many(what));
    }

    // ---- end

    @Says(promise = 10, words = "2 how many SEGMENTS have it as FIRST END, 3 as LAST END.")
    void fromNoSegmentToSix() {
        WalledFields w = new WalledFields();
        for (int k = 0; k < 6; k++) {
            w.segment(0, 0, 0, 9, k);
            dueAll(row(k + 1, 0, 0, 1), w.end(0, 2), w.end(0, 3), w.end(k + 1, 2), w.end(k + 1, 3));
        }
        for (int k = 0; k < 6; k++) w.move(k, 0, 0, -9, k);
        dueAll(row(0, 0, 0, 6), w.end(6, 0), w.end(6, 1), w.end(6, 2), w.end(6, 3));
        for (int k = 0; k < 3; k++) w.move(k, 0, 0, 9, k);
        dueAll(row(0, 0, 3, 3), w.end(3, 0), w.end(3, 1), w.end(3, 2), w.end(3, 3));
        w = stack();
        dueAll(row(25, 50, 0, 1), w.end(11, 0), w.end(11, 1), w.end(11, 2), w.end(11, 3));
    }

    @Says(promise = 10, words = "BEYOND.")
    void endIsRefused() {
        for (int e : outside(0, 5)) refused(BEYOND, Boundaries::rich, w -> w.end(e, 0));
        for (int what : outside(0, 3)) refused(BEYOND, Boundaries::rich, w -> w.end(0, what));
        refused(BEYOND, Boundaries::empty, w -> w.end(0, 0));
        refused(BEYOND, Boundaries::stack, w -> w.end(12, 0));
        due(5, rich().end(5, 1));
    }

    // ---- field

    @Says(promise = 11, words = "Of a FIELD: what 0 FLOOR, 1 ROOF, 2 BEGIN, 3 CLOSE, 4 how many CELLS.")
    void theFirstFieldAndTheLast() {
        WalledFields w = empty();
        dueAll(row(-1, -1, -1, -1, 1), w.field(0, 0), w.field(0, 1), w.field(0, 2), w.field(0, 3), w.field(0, 4));
        w = stack();
        dueAll(row(-1, -1, -1, 0, 1), w.field(0, 0), w.field(0, 1), w.field(0, 2), w.field(0, 3), w.field(0, 4));
        dueAll(row(-1, -1, 11, -1, 1), w.field(18, 0), w.field(18, 1), w.field(18, 2), w.field(18, 3), w.field(18, 4));
        // Under a wall that is the lowest, and the longest, a FIELD has as many CELLS as it may.
        w = new WalledFields();
        w.segment(0, -99, -99, 99, -99);
        for (int k = 0; k < 5; k++) w.segment(0, 10 * k, 0, 10 * k + 5, 0);
        dueAll(row(-1, 0, 0, 11, 11), w.field(1, 0), w.field(1, 1), w.field(1, 2), w.field(1, 3), w.field(1, 4));
    }

    @Says(promise = 11, words = "BEYOND.")
    void fieldIsRefused() {
        for (int f : NO_FIELDS) refused(BEYOND, Boundaries::rich, w -> w.field(f, 0));
        for (int what : outside(0, 4)) refused(BEYOND, Boundaries::rich, w -> w.field(0, what));
        refused(BEYOND, Boundaries::empty, w -> w.field(1, 0));
        refused(BEYOND, Boundaries::stack, w -> w.field(19, 0));
        due(1, rich().field(9, 4));
    }

    // ---- at

    @Says(promise = 12, words = "if it is an END, 100 more than its number; if it is on a SEGMENT else, 200 more than its number.")
    void endsAheadOfSegmentsAheadOfFields() {
        WalledFields w = stack();
        for (int k = 0; k < 6; k++) {
            dueAll(row(100 + k, 106 + k), w.at(k - 20, 10 * k), w.at(k + 20, 10 * k));
            dueAll(row(200 + k, 200 + k), w.at(k - 19, 10 * k), w.at(k + 19, 10 * k));
            due(1, w.at(k - 21, 10 * k) < 100 && w.at(k + 21, 10 * k) < 100 ? 1 : 0);
        }
        dueAll(row(0, 18), w.at(-99, 0), w.at(99, 0));
        // On the line of a SEGMENT, but behind its END.
        w = new WalledFields();
        w.segment(0, 0, 0, 4, 2);
        dueAll(row(0, 100, 200, 101, 3), w.at(-2, -1), w.at(0, 0), w.at(2, 1), w.at(4, 2), w.at(6, 3));
        dueAll(row(2, 1, 2, 1), w.at(1, 1), w.at(1, 0), w.at(3, 2), w.at(3, 1));
    }

    @Says(promise = 12, words = "BEYOND.")
    void atIsRefused() {
        refusedBeyond((w, x, y) -> w.at(x, y));
        refused(BEYOND, Boundaries::empty, w -> w.at(100, 100));
        dueAll(row(0, 9, 0, 9), rich().at(-99, -99), rich().at(99, 99), rich().at(-99, 99), rich().at(99, -99));
    }

    // ---- near

    @Says(promise = 13, words = "BEYOND.")
    void nearIsRefused() {
        for (int what : outside(0, 3)) refused(BEYOND, Boundaries::rich, w -> w.near(1, 1, what));
        refusedBeyond((w, x, y) -> w.near(x, y, 0));
        refusedBeyond((w, x, y) -> w.near(x, y, 3));
        refused(BEYOND, Boundaries::rich, w -> w.near(0, 0, 4));
    }

    @Says(promise = 13, words = "STATE: it is an END, or on a SEGMENT.")
    void nearAWall() {
        for (int what = 0; what < 4; what++) {
            int asked = what;
            for (int x : new int[] {0, 1, 9, 10}) refused(STATE, Boundaries::rich, w -> w.near(x, 0, asked));
            for (int y = -5; y <= 5; y += 5) {
                int on = y;
                refused(STATE, Boundaries::rich, w -> w.near(20, on, asked));
            }
        }
        dueAll(row(-1, -1), rich().near(-1, 0, 0), rich().near(11, 0, 0));
        dueAll(row(-1, -1), rich().near(20, -6, 0), rich().near(20, 6, 0));
    }

    // ---- sight

    @Says(promise = 14, words = "How many SEGMENTS have any POINT (also one that isn't whole) in common with the line between two POINTS, ends of that with it.")
    void fromNoSegmentInSightToAll() {
        due(0, empty().sight(-99, -99, 99, 99));
        WalledFields w = stack();
        dueAll(row(6, 6, 6, 5, 5), w.sight(0, -99, 0, 99), w.sight(0, 0, 0, 50), w.sight(1, 50, 0, 0), w.sight(0, 1, 0, 50), w.sight(0, 0, 0, 49));
        dueAll(row(0, 1, 1, 1), w.sight(0, 1, 0, 9), w.sight(0, 1, 0, 10), w.sight(0, 0, 1, 0), w.sight(-99, 0, 99, 0));
        // Up to an END, along the wall, up to just ahead of an END.
        dueAll(row(1, 1, 0, 0), w.sight(-30, 0, -20, 0), w.sight(30, 0, 20, 0), w.sight(-30, 0, -21, 0), w.sight(30, 0, 21, 0));
        dueAll(row(1, 0), w.sight(-21, -1, -19, 1), w.sight(-22, -1, -20, 1));
        // In common is a POINT that isn't whole, just inside the END or just outside.
        WalledFields odd = new WalledFields();
        odd.segment(0, 0, 0, 3, 1);
        dueAll(row(1, 1, 0, 1), odd.sight(1, 1, 1, 0), odd.sight(2, 1, 2, 0), odd.sight(1, 1, 2, 1), odd.sight(0, 1, 1, 0));
    }

    @Says(promise = 14, words = "BEYOND: also both the same.")
    void sightIsRefused() {
        refusedBeyond((w, x, y, u, v) -> w.sight(x, y, u, v));
        refused(BEYOND, Boundaries::rich, w -> w.sight(5, 5, 5, 5));
        refused(BEYOND, Boundaries::empty, w -> w.sight(99, 99, 99, 99));
        dueAll(row(0, 0), empty().sight(99, 99, 99, 98), empty().sight(98, 99, 99, 99));
    }
}
