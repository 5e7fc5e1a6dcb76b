/** Boundary cases of promises 20 to 24: cost, next, within, lose, kindFor. */
final class WayBoundaries extends Boundaries {
    private static final int[] NO_FIELDS = outside(0, 9);

    /** A triangle whose walls are of one KIND and WIDTH. */
    private static WalledFields triangle(int km) {
        WalledFields w = new WalledFields();
        w.segment(km, -9, 0, 9, 0);
        w.segment(km, -9, 0, 0, 9);
        w.segment(km, 0, 9, 9, 0);
        return w;
    }

    // ---- cost

    @Says(promise = 20, words = "COST of two FIELDS.")
    void fromNothingToAsMuchAsThereMayBe() {
        due(0, empty().cost(0, 0));
        WalledFields w = triangle(29);
        w.tide(3);
        int inside = w.at(0, 1);
        for (int f = 0; f < w.many(2); f++) due(0, w.cost(f, f));
        dueAll(row(36, 36), w.cost(inside, 0), w.cost(0, inside));
        dueAll(row(0, 0), w.cost(0, w.many(2) - 1), w.cost(w.many(2) - 1, 0));
        w.tide(0);
        due(9, w.cost(inside, 0));
        w.become(2, 49);
        due(6, w.cost(inside, 0));
        w.become(1, 51);
        due(0, w.cost(inside, 0));
    }

    @Says(promise = 20, words = "BEYOND.")
    void costIsRefused() {
        for (int f : NO_FIELDS) {
            refused(BEYOND, Boundaries::rich, w -> w.cost(f, 0));
            refused(BEYOND, Boundaries::rich, w -> w.cost(0, f));
            refused(BEYOND, Boundaries::rich, w -> w.cost(f, f));
        }
        refused(BEYOND, Boundaries::empty, w -> w.cost(0, 1));
        refused(BEYOND, Boundaries::stack, w -> w.cost(19, 0));
        due(0, rich().cost(9, 9));
        due(0, stack().cost(18, 0));
    }

    // ---- next

    @Says(promise = 21, words = "by which one comes from f to g for COST; of several the least.")
    void ofSeveralTheLeast() {
        // FIELDS of the triangle: 0 ahead, 1 under, 2 inside ahead of its top, 3 over that, 4 inside behind, 5 over that, 6 behind.
        WalledFields w = triangle(5);
        due(7, w.many(2));
        dueAll(row(2, 4), w.at(-5, 1), w.at(5, 1));
        dueAll(row(1, 1, 1), w.next(2, 0), w.next(2, 1), w.next(2, 3));
        dueAll(row(1, 1), w.next(0, 2), w.next(0, 6));
        dueAll(row(4, 2), w.next(2, 4), w.next(4, 2));
        // Around all walls one comes for nothing too, by a FIELD of a lesser number.
        dueAll(row(0, 0), w.next(3, 0), w.next(3, 5));
        // By a lesser TOLL the way is another one.
        w.become(1, 4);
        dueAll(row(3, 3), w.next(2, 0), w.next(2, 1));
        due(2, w.next(4, 0));
        w.become(2, 4);
        dueAll(row(3, 2), w.next(2, 0), w.next(4, 0));
    }

    @Says(promise = 21, words = "A FIELD of CELLS next to any of f (by a TOLL, or for nothing)")
    void neverFItself() {
        // A short wall high above cuts what is inside ahead of the top into three CELLS, which are next to one another.
        WalledFields w = triangle(5);
        w.become(1, 4);
        w.segment(0, -5, 50, -4, 50);
        dueAll(row(2, 3, 7), w.at(-5, 1), w.field(2, 4), w.at(5, 1));
        dueAll(row(3, 3, 3, 7), w.next(2, 0), w.next(2, 1), w.next(2, 3), w.next(2, 7));
        // For nothing, at its last CELL alone.
        w.become(1, 5);
        w.become(2, 4);
        dueAll(row(7, 7), w.next(2, 0), w.next(2, 9));
        // Back for nothing, and then by the same TOLL, it is COST too: of 2 and 8 the lesser.
        due(2, w.next(7, 8));
    }

    @Says(promise = 21, words = "A FIELD of CELLS next to any of f")
    void neverOneThatIsNotNext() {
        // Ahead of the triangle, away from it, another one of TOLL 1: what is in that lies one farther off than what is behind all.
        WalledFields w = triangle(5);
        w.segment(1, -39, 0, -21, 0);
        w.segment(1, -39, 0, -30, 9);
        w.segment(1, -30, 9, -21, 0);
        dueAll(row(13, 2, 8), w.many(2), w.at(-35, 1), w.at(-5, 1));
        dueAll(row(6, 5), w.cost(2, 8), w.cost(12, 8));
        dueAll(row(7, 1, 1), w.next(12, 8), w.next(6, 8), w.next(2, 8));
    }

    @Says(promise = 21, words = "BEYOND.")
    void nextBeyond() {
        for (int f : NO_FIELDS) {
            refused(BEYOND, Boundaries::rich, w -> w.next(f, 0));
            refused(BEYOND, Boundaries::rich, w -> w.next(0, f));
            refused(BEYOND, Boundaries::rich, w -> w.next(f, f));
        }
        refused(BEYOND, Boundaries::empty, w -> w.next(0, 1));
        refused(BEYOND, Boundaries::stack, w -> w.next(18, 19));
    }

    @Says(promise = 21, words = "NONE: f is g.")
    void nextOfTheSame() {
        for (int f = 0; f < 10; f++) {
            int same = f;
            refused(NONE, Boundaries::rich, w -> w.next(same, same));
        }
        refused(NONE, Boundaries::empty, w -> w.next(0, 0));
        refused(NONE, Boundaries::stack, w -> w.next(18, 18));
    }

    // ---- within

    @Says(promise = 22, words = "How many FIELDS one can come to from f for c (0 to 999) at most, f with them.")
    void justEnoughAndOneLess() {
        due(1, empty().within(0, 0));
        due(1, empty().within(0, 999));
        WalledFields w = triangle(5);
        dueAll(row(2, 2, 7, 7, 7), w.within(2, 0), w.within(2, 4), w.within(2, 5), w.within(2, 6), w.within(2, 999));
        dueAll(row(5, 5, 7), w.within(0, 0), w.within(0, 4), w.within(0, 5));
        w = nested();
        int inside = w.at(0, 0);
        int few = w.within(inside, 0);
        dueAll(row(few, 13, 13), w.within(inside, 4), w.within(inside, 12), w.within(inside, 999));
        due(w.within(inside, 5), w.within(inside, 11));
        due(1, few < w.within(inside, 5) && w.within(inside, 11) < 13 ? 1 : 0);
    }

    @Says(promise = 22, words = "BEYOND.")
    void withinIsRefused() {
        for (int f : NO_FIELDS) refused(BEYOND, Boundaries::rich, w -> w.within(f, 0));
        for (int c : outside(0, 999)) refused(BEYOND, Boundaries::rich, w -> w.within(0, c));
        refused(BEYOND, Boundaries::empty, w -> w.within(1, 0));
        refused(BEYOND, Boundaries::stack, w -> w.within(19, 999));
        due(19, stack().within(18, 0));
    }

    // ---- lose

    @Says(promise = 23, words = "The SEGMENT without which COST of the FIELDS that HOLD two POINTS (that HOLD them then) is least; of several the least.")
    void whichSegmentIsBestLost() {
        WalledFields w = triangle(5);
        due(0, w.lose(0, 1, 0, -9));
        // What is open without it costs nothing, whatever it cost.
        w.become(0, 0);
        due(0, w.lose(0, 1, 0, -9));
        w.segment(1, 30, 0, 40, 0);
        w.renumber(18);
        // Now it is 3, 0, 1, 2: without the one that is nowhere near it costs nothing either, by the wall of TOLL 0.
        dueAll(row(30, -9), w.of(0, 2), w.of(1, 2));
        due(0, w.lose(0, 1, 0, -9));
        w.become(1, 1);
        due(1, w.lose(0, 1, 0, -9));
        due(0, w.lose(0, 99, 0, -9));
        due(0, w.lose(0, 1, 0, 1));
        // It is what there is then that counts: the first wall of one that stands alone.
        due(0, two().lose(5, 1, 5, -1));
    }

    @Says(promise = 23, words = "BEYOND: POINTS.")
    void losePointsBeyond() {
        refusedBeyond((w, x, y, u, v) -> w.lose(x, y, u, v));
        // Also where a POINT is an END, or there are no SEGMENTS.
        refused(BEYOND, Boundaries::rich, w -> w.lose(0, 0, 1, 100));
        refused(BEYOND, Boundaries::empty, w -> w.lose(100, 0, 1, 1));
    }

    @Says(promise = 23, words = "STATE: one is an END, or on a SEGMENT (now).")
    void losePointsOnAWall() {
        for (int x : new int[] {0, 1, 9, 10}) {
            refused(STATE, Boundaries::rich, w -> w.lose(x, 0, 1, 1));
            refused(STATE, Boundaries::rich, w -> w.lose(1, 1, x, 0));
            refused(STATE, Boundaries::rich, w -> w.lose(x, 0, x, 0));
        }
        // A POINT on the only wall that stands: it would be in a FIELD without it, but it isn't now.
        refused(STATE, () -> stackWithOne(), w -> w.lose(0, 0, 50, 50));
        due(0, rich().lose(-1, 0, 11, 0));
    }

    private static WalledFields stackWithOne() {
        WalledFields w = stack();
        for (int k = 0; k < 5; k++) w.drop();
        return w;
    }

    @Says(promise = 23, words = "NONE: there are no SEGMENTS.")
    void loseOfNone() {
        refused(NONE, Boundaries::empty, w -> w.lose(0, 0, 1, 1));
        refused(NONE, Boundaries::empty, w -> w.lose(99, -99, 99, -99));
        due(0, stackWithOne().lose(0, 1, 0, -1));
    }

    // ---- kindFor

    @Says(promise = 24, words = "The KIND of which a SEGMENT must be, so that COST of the two is least; of several the least.")
    void theLeastKindOfTheLeastCost() {
        // From inside to outside by TIDE and WIDTH of the wall; the two others cost 9 each.
        int[][] kinds = {{0, 4, 4, 4, 4, 4, 4, 5, 5, 5}, {0, 4, 4, 5, 5, 5, 5, 5, 5, 5}, {0, 4, 5, 5, 5, 5, 5, 5, 5, 5}, {0, 5, 5, 5, 5, 5, 5, 5, 5, 5}};
        for (int tide = 0; tide < 4; tide++) {
            for (int width = 0; width < 10; width++) {
                WalledFields w = triangle(9);
                w.tide(tide);
                w.become(0, 30 + width);
                due(kinds[tide][width], w.kindFor(0, 0, 1, 0, -9));
                dueAll(row(3, width), w.of(0, 0), w.of(0, 1));
            }
        }
        // Where it isn't on the way each is alike.
        due(0, triangle(9).kindFor(0, 0, -9, 0, 99));
        due(0, triangle(9).kindFor(2, 0, 1, 0, 1));
        WalledFields cheap = triangle(9);
        cheap.become(1, 0);
        due(0, cheap.kindFor(0, 0, 1, 0, -9));
    }

    @Says(promise = 24, words = "BEYOND.")
    void kindForBeyond() {
        for (int i : outside(0, 2)) refused(BEYOND, Boundaries::rich, w -> w.kindFor(i, 1, 1, 2, 2));
        refusedBeyond((w, x, y, u, v) -> w.kindFor(0, x, y, u, v));
        refused(BEYOND, Boundaries::rich, w -> w.kindFor(0, 0, 0, 1, -100));
        refused(BEYOND, Boundaries::empty, w -> w.kindFor(0, 1, 1, 2, 2));
        refused(BEYOND, Boundaries::richAndFull, w -> w.kindFor(6, 0, 0, 2, 2));
        due(0, rich().kindFor(2, 1, 1, 2, 2));
    }

    @Says(promise = 24, words = "STATE likewise.")
    void kindForPointsOnAWall() {
        for (int x : new int[] {0, 1, 9, 10}) {
            refused(STATE, Boundaries::rich, w -> w.kindFor(0, x, 0, 1, 1));
            refused(STATE, Boundaries::rich, w -> w.kindFor(2, 1, 1, x, 0));
        }
        refused(STATE, () -> stackWithOne(), w -> w.kindFor(0, 0, 0, 50, 50));
        due(0, rich().kindFor(0, -1, 0, 11, 0));
    }
}
