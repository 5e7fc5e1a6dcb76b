/** Boundary cases of promises 15 to 19: steps, depth, ordered, best, renumber. */
final class SearchBoundaries extends Boundaries {
    private static final int[] ORDERS = {1, 1, 2, 6, 24, 120, 720};

    /** The first walls of stack(). */
    private static WalledFields stackOf(int many) {
        WalledFields w = stack();
        for (int k = many; k < 6; k++) w.drop();
        return w;
    }

    // ---- steps

    @Says(promise = 15, words = "STEPS of a POINT.")
    void fromNoStepsToMany() {
        due(0, empty().steps(99, -99));
        dueAll(row(1, 3, 3, 2), stackOf(1).steps(-21, 0), stackOf(1).steps(0, 1), stackOf(1).steps(0, -1), stackOf(1).steps(21, 0));
        // Over the highest of six the first wall asks for three, each other one for its FIRST END and its side:
        // its LAST END is behind CLOSE. Behind all of them the first asks for its two ENDS, each other one for its LAST.
        WalledFields w = stack();
        dueAll(row(1, 13, 3, 7), w.steps(-99, 0), w.steps(0, 99), w.steps(0, -1), w.steps(99, 0));
    }

    @Says(promise = 15, words = "BEYOND.")
    void stepsBeyond() {
        refusedBeyond((w, x, y) -> w.steps(x, y));
    }

    @Says(promise = 15, words = "STATE: it is an END, or on a SEGMENT.")
    void stepsOnAWall() {
        for (int x : new int[] {0, 1, 9, 10}) refused(STATE, Boundaries::rich, w -> w.steps(x, 0));
        for (int y : new int[] {-5, -4, 4, 5}) refused(STATE, Boundaries::rich, w -> w.steps(20, y));
        due(1, rich().steps(-1, 0));
        due(1, rich().steps(0, -1));
    }

    // ---- depth

    @Says(promise = 16, words = "What 0 DEPTH, 1 SUM.")
    void depthOfNoneOneAndSix() {
        dueAll(row(0, 0), empty().depth(0), empty().depth(1));
        dueAll(row(3, 9), stackOf(1).depth(0), stackOf(1).depth(1));
        due(13, stack().depth(0));
    }

    @Says(promise = 16, words = "BEYOND.")
    void depthIsRefused() {
        for (int what : outside(0, 1)) refused(BEYOND, Boundaries::rich, w -> w.depth(what));
    }

    // ---- ordered

    @Says(promise = 17, words = "SEARCHES by an ORDER: what 0 DEPTH, 1 SUM, 10 and i the i-th SEGMENT of it.")
    void theFirstOrderIsThatOfTheNumbers() {
        for (int many = 0; many <= 6; many++) {
            WalledFields w = stackOf(many);
            dueAll(row(w.depth(0), w.depth(1)), w.ordered(0, 0), w.ordered(0, 1));
            int last = ORDERS[many] - 1;
            int depth = w.ordered(last, 0);
            int sum = w.ordered(last, 1);
            for (int i = 0; i < many; i++) due(many - 1 - i, w.ordered(last, 10 + i));
            w.renumber(last);
            dueAll(row(depth, sum), w.depth(0), w.depth(1));
            // It was turned round: so turned round again it is as it was.
            dueAll(row(stackOf(many).depth(0), stackOf(many).depth(1)), w.ordered(last, 0), w.ordered(last, 1));
        }
    }

    @Says(promise = 17, words = "what 0 DEPTH, 1 SUM")
    void aDeeperOrderAskedForAheadDoesNotCount() {
        WalledFields w = two();
        dueAll(row(6, 33, 4, 30, 6, 33), w.ordered(0, 0), w.ordered(0, 1), w.ordered(1, 0), w.ordered(1, 1), w.depth(0), w.depth(1));
        w.renumber(1);
        dueAll(row(4, 30, 6, 33), w.depth(0), w.depth(1), w.ordered(1, 0), w.ordered(1, 1));
        w.drop();
        dueAll(row(3, 9), w.depth(0), w.depth(1));
    }

    @Says(promise = 17, words = "BEYOND: no such ORDER, what.")
    void orderedIsRefused() {
        for (int many = 0; many <= 6; many++) {
            int count = many;
            for (int order : new int[] {-1, ORDERS[many], LEAST, MOST}) refused(BEYOND, () -> stackOf(count), w -> w.ordered(order, 0));
            for (int what : new int[] {-1, 2, 9, 10 + many, LEAST, MOST}) refused(BEYOND, () -> stackOf(count), w -> w.ordered(0, what));
        }
        for (int what : new int[] {-1, 2, 9, 13}) refused(BEYOND, Boundaries::rich, w -> w.ordered(0, what));
        refused(BEYOND, Boundaries::rich, w -> w.ordered(6, 0));
        dueAll(row(2, 0), rich().ordered(5, 10), rich().ordered(5, 12));
    }

    // ---- best

    @Says(promise = 18, words = "The BEST ORDER.")
    void bestOfNoneOneAndSix() {
        dueAll(row(0, 0), empty().best(), stackOf(1).best());
        // A short wall over a long one: it is better told first.
        dueAll(row(1, 1), two().best(), two().best());
        WalledFields w = two();
        w.renumber(1);
        due(0, w.best());
        // Two of one length beside one another are alike: the lesser number.
        w = new WalledFields();
        w.segment(0, 0, 0, 1, 0);
        w.segment(0, 0, 1, 1, 1);
        int[] depths = {w.ordered(0, 0), w.ordered(1, 0)};
        int[] sums = {w.ordered(0, 1), w.ordered(1, 1)};
        due(depths[1] < depths[0] || depths[1] == depths[0] && sums[1] < sums[0] ? 1 : 0, w.best());
        w = stack();
        int best = w.best();
        due(1, best >= 0 && best < 720 ? 1 : 0);
        w.renumber(best);
        dueAll(row(w.ordered(0, 0), w.ordered(0, 1)), w.ordered(w.best(), 0), w.ordered(w.best(), 1));
        due(0, w.best());
        due(0, w.status(-1));
    }

    @Says(promise = 18, words = "BEST ORDER")
    void bestIsFoundAnewWithEachWall() {
        int[][] walls = {{0, 4, 3, 0}, {4, 0, 1, 3}, {1, 4, 4, 0}, {-9, 0, -8, 5}, {-9, 9, 9, 9}, {5, 5, 5, 7}};
        WalledFields growing = empty();
        for (int many = 0; many <= 6; many++) {
            WalledFields w = empty();
            for (int k = 0; k < many; k++) w.segment(0, walls[k][0], walls[k][1], walls[k][2], walls[k][3]);
            due(many, w.count(0));
            due(w.best(), growing.best());
            if (many < 6) growing.segment(0, walls[many][0], walls[many][1], walls[many][2], walls[many][3]);
        }
        for (int many = 5; many >= 0; many--) {
            growing.drop();
            WalledFields w = empty();
            for (int k = 0; k < many; k++) w.segment(0, walls[k][0], walls[k][1], walls[k][2], walls[k][3]);
            due(w.best(), growing.best());
        }
    }

    // ---- renumber

    @Says(promise = 19, words = "SEGMENTS are numbered by an ORDER from now on: 1.")
    void theFirstOrderChangesNothingTheLastTurnsAllRound() {
        due(1, empty().renumber(0));
        for (int many = 1; many <= 6; many++) {
            WalledFields w = stackOf(many);
            due(1, w.renumber(0));
            for (int i = 0; i < many; i++) due(10 * i, w.of(i, 3));
            due(1, w.renumber(ORDERS[many] - 1));
            for (int i = 0; i < many; i++) {
                int was = many - 1 - i;
                dueAll(row(was, was, was - 20, 10 * was, was + 20, 10 * was), w.of(i, 0), w.of(i, 1), w.of(i, 2), w.of(i, 3), w.of(i, 4), w.of(i, 5));
                due(200 + i, w.at(1, 10 * was));
            }
        }
    }

    @Says(promise = 19, words = "BEYOND.")
    void renumberIsRefused() {
        for (int many = 0; many <= 6; many++) {
            int count = many;
            for (int order : new int[] {-1, ORDERS[many], LEAST, MOST}) refused(BEYOND, () -> stackOf(count), w -> w.renumber(order));
        }
        refused(BEYOND, Boundaries::rich, w -> w.renumber(6));
        due(1, rich().renumber(5));
    }
}
