/** Boundary cases of the document's Terms: ENDS, STRIPS, CELLS, FIELDS, STEPS, ORDERS, WAYS. */
final class LandBoundaries extends Boundaries {
    /** Six walls from one POINT to six, the lowest of which is wall 0. */
    private static WalledFields fan() {
        WalledFields w = new WalledFields();
        for (int k = 0; k < 6; k++) w.segment(k, 0, 0, 10, 2 * k - 5);
        return w;
    }

    /** A long wall, and a second one that begins where the first does. */
    private static WalledFields likeFirstEnds() {
        WalledFields w = new WalledFields();
        w.segment(0, 0, 0, 10, 0);
        w.segment(0, 0, 0, 10, 5);
        return w;
    }

    /** A long wall, and a second one that closes where the first does. */
    private static WalledFields likeLastEnds() {
        WalledFields w = new WalledFields();
        w.segment(0, 0, 0, 10, 0);
        w.segment(0, 0, 5, 10, 0);
        return w;
    }

    // ---- ENDS, STRIPS

    @Says(words = "ENDS 0, 1, ..: all END POINTS of SEGMENTS, each once, by ORDER.")
    void endsCountOnceEach() {
        due(0, empty().many(0));
        due(7, fan().many(0));
        due(12, stack().many(0));
        due(3, likeFirstEnds().many(0));
        WalledFields w = nested();
        due(6, w.many(0));
        dueAll(row(-9, -1, 0, 0, 1, 9), w.end(0, 0), w.end(1, 0), w.end(2, 0), w.end(3, 0), w.end(4, 0), w.end(5, 0));
        dueAll(row(-9, -1, 1, 9, -1, -9), w.end(0, 1), w.end(1, 1), w.end(2, 1), w.end(3, 1), w.end(4, 1), w.end(5, 1));
        w.drop();
        w.drop();
        due(5, w.many(0));
    }

    @Says(words = "STRIP j is between END j - 1 and END j (0 ahead of all, the last one behind all).")
    void stripsBesideEachEnd() {
        WalledFields w = two();
        dueAll(row(0, 0, 1, 1), w.near(-99, 99, 2), w.near(0, -1, 2), w.near(0, 1, 2), w.near(2, 4, 2));
        dueAll(row(2, 2, 3, 3), w.near(2, 6, 2), w.near(8, 4, 2), w.near(8, 6, 2), w.near(10, -1, 2));
        dueAll(row(4, 4), w.near(10, 1, 2), w.near(99, -99, 2));
        due(0, empty().near(99, 99, 2));
        WalledFields most = stack();
        due(0, most.near(-20, -1, 2));
        due(6, most.near(0, 5, 2));
        due(11, most.near(25, 49, 2));
        due(12, most.near(25, 51, 2));
    }

    @Says(words = "A SEGMENT GOES THROUGH those STRIPS that are between its ENDS.")
    void aWallGoesThroughNoOtherStrips() {
        WalledFields w = two();
        dueAll(row(-1, 0, 0, -1), w.near(-1, 5, 0), w.near(0, 1, 0), w.near(10, -1, 1), w.near(10, 1, 0));
        dueAll(row(-1, 1, 1, -1), w.near(2, 4, 1), w.near(2, 6, 0), w.near(8, 4, 1), w.near(8, 6, 1));
        due(9, w.many(1));
    }

    @Says(words = "(of LAST ENDS the one ahead, if the FIRST are the same)")
    void wallsOfOneFirstEnd() {
        WalledFields w = fan();
        for (int k = 0; k <= 6; k++) {
            due(k - 1, w.near(9, 2 * k - 6, 0));
            due(k == 6 ? -1 : k, w.near(9, 2 * k - 6, 1));
        }
        // Of an upright one the left side is over it: from the lowest on they are 1, 0, 2.
        WalledFields other = new WalledFields();
        other.segment(0, 0, 0, 1, 9);
        other.segment(0, 0, 0, 9, 1);
        other.segment(0, 0, 0, 0, 5);
        dueAll(row(-1, 1, 0, 2, 0), other.field(1, 0), other.field(2, 0), other.field(3, 0), other.field(4, 0), other.field(5, 0));
        dueAll(row(1, 0, 2, -1, -1), other.field(1, 1), other.field(2, 1), other.field(3, 1), other.field(4, 1), other.field(5, 1));
    }

    @Says(words = "s over t, if of the two FIRST ENDS the one behind in ORDER")
    void theFirstEndBehindDecides() {
        for (int turned = 0; turned < 2; turned++) {
            WalledFields w = new WalledFields();
            w.segment(0, -50, -50, 50, 50);
            w.segment(0, 0, turned == 0 ? 1 : -1, 20, turned == 0 ? 99 : -99);
            dueAll(turned == 0 ? row(0, 1) : row(1, 0), w.near(10, turned == 0 ? 20 : -20, 0), w.near(10, turned == 0 ? 20 : -20, 1));
            w = new WalledFields();
            w.segment(0, 0, turned == 0 ? 1 : -1, 20, turned == 0 ? 99 : -99);
            w.segment(0, -50, -50, 50, 50);
            dueAll(turned == 0 ? row(1, 0) : row(0, 1), w.near(10, turned == 0 ? 20 : -20, 0), w.near(10, turned == 0 ? 20 : -20, 1));
        }
    }

    @Says(words = "is LEFT of t, being of s, or RIGHT of s, being of t.")
    void overByATurnOfOne() {
        // The second wall's FIRST END, or its LAST END, is LEFT of the first wall by a TURN of 1.
        int[][] uppers = {{-98, -98, 0, 50}, {-99, -99, -98, -98}};
        for (int[] u : uppers) {
            for (int turned = 0; turned < 2; turned++) {
                WalledFields w = new WalledFields();
                if (turned == 0) w.segment(0, -99, -99, 99, 98);
                w.segment(0, u[0], u[1], u[2], u[3]);
                if (turned == 1) w.segment(0, -99, -99, 99, 98);
                int between = fieldOf(w, turned, 1 - turned);
                due(1, between >= 0 ? 1 : 0);
                due(-1, fieldOf(w, 1 - turned, turned));
            }
        }
    }

    /** The first FIELD that has this FLOOR and this ROOF, or -1. */
    private static int fieldOf(WalledFields w, int floor, int roof) {
        for (int f = 0; f < w.many(2); f++) {
            if (w.field(f, 0) == floor && w.field(f, 1) == roof) return f;
        }
        return -1;
    }

    @Says(words = "the one behind in ORDER (of LAST ENDS the one ahead, if the FIRST are the same) is LEFT of t")
    void wallsOfOneLastEnd() {
        // Of one LAST END, and FIRST ENDS of one x, of one y, of none in common; the upper one is told first or last.
        int[][] pairs = {{0, 0, 0, 5, 10, 0}, {0, 0, 3, 0, 10, -5}, {0, 0, 1, 3, 10, 1}, {3, 0, 0, 0, 10, 5}};
        for (int[] p : pairs) {
            for (int turned = 0; turned < 2; turned++) {
                WalledFields w = new WalledFields();
                w.segment(0, p[2 * turned], p[2 * turned + 1], p[4], p[5]);
                w.segment(0, p[2 - 2 * turned], p[3 - 2 * turned], p[4], p[5]);
                due(1, fieldOf(w, turned, 1 - turned) >= 0 ? 1 : 0);
                due(-1, fieldOf(w, 1 - turned, turned));
            }
        }
    }

    // ---- CELLS, FIELDS

    @Says(words = "CELLS of a STRIP: 0 under the lowest of these SEGMENTS, 1 over it, .. up to the one over the highest.")
    void cellsFromTheLowestToTheHighest() {
        WalledFields w = stack();
        for (int k = 0; k <= 6; k++) due(k, w.near(1, 10 * k - 5, 3));
        due(0, w.near(-50, 99, 3));
        due(0, w.near(50, 99, 3));
        due(0, empty().near(0, 0, 3));
        due(49, w.many(1));
        due(1, empty().many(1));
    }

    @Says(words = "FLOOR of a CELL: the SEGMENT under it (-1: none), ROOF: the one over it (-1: none).")
    void floorAndRoofMayBeNone() {
        WalledFields w = stack();
        for (int k = 0; k <= 6; k++) {
            due(k - 1, w.near(1, 10 * k - 5, 0));
            due(k == 6 ? -1 : k, w.near(1, 10 * k - 5, 1));
        }
        dueAll(row(-1, -1), w.near(-50, 5, 0), w.near(-50, 5, 1));
        dueAll(row(-1, -1), empty().near(0, 0, 0), empty().near(0, 0, 1));
    }

    @Says(words = "CELLS of one STRIP after another that have the same FLOOR and the same ROOF are of one FIELD, as far as they go")
    void aFieldThatIsCutIsTwo() {
        // Under a roof of ten a short wall: what is between floor and roof ahead of it and behind it is not one FIELD.
        WalledFields w = new WalledFields();
        w.segment(0, 0, 0, 20, 0);
        w.segment(0, 0, 10, 20, 10);
        int whole = w.at(5, 5);
        due(whole, w.at(15, 5));
        w.segment(0, 9, 5, 11, 5);
        int ahead = w.at(5, 5);
        int behind = w.at(15, 5);
        due(1, behind > ahead ? 1 : 0);
        dueAll(row(0, 1, 0, 1), w.field(ahead, 0), w.field(ahead, 1), w.field(behind, 0), w.field(behind, 1));
        dueAll(row(1, 2, 3, 4), w.field(ahead, 2), w.field(ahead, 3), w.field(behind, 2), w.field(behind, 3));
        due(4, w.field(w.at(10, -1), 4));
        due(4, w.field(w.at(10, 11), 4));
    }

    @Says(words = "numbered by their first STRIP, of like ones the lower CELL first.")
    void fieldsByFirstStripThenByHeight() {
        WalledFields w = fan();
        due(0, w.at(-5, 0));
        for (int k = 0; k <= 6; k++) due(1 + k, w.at(9, 2 * k - 6));
        due(14, w.many(2));
        due(19, stack().many(2));
        due(1, empty().many(2));
    }

    @Says(words = "BEGIN of a FIELD: the END ahead of its first STRIP (-1: none), CLOSE: the one behind its last (-1: none).")
    void beginAndCloseMayBeNone() {
        WalledFields w = stack();
        dueAll(row(-1, 0), w.field(0, 2), w.field(0, 3));
        dueAll(row(11, -1), w.field(18, 2), w.field(18, 3));
        dueAll(row(-1, -1), empty().field(0, 2), empty().field(0, 3));
        dueAll(row(0, 6), w.field(1, 2), w.field(1, 3));
    }

    @Says(words = "A POINT that is no END, on no SEGMENT, is in a STRIP by ORDER, and in that CELL of it that has as FLOOR the highest SEGMENT that it is LEFT of")
    void theCellOverTheHighestFloor() {
        WalledFields w = stack();
        for (int k = 0; k < 6; k++) {
            due(k, w.near(1, 10 * k + 1, 0));
            due(k - 1, w.near(1, 10 * k - 1, 0));
            due(200 + k, w.at(1, 10 * k));
        }
        due(5, w.near(1, 99, 0));
        due(-1, w.near(1, -99, 0));
        // Left of an upright wall is over it, right of it under it.
        WalledFields upright = new WalledFields();
        upright.segment(0, 0, -5, 0, 5);
        dueAll(row(0, 100, 200, 101), upright.at(-1, 0), upright.at(0, -5), upright.at(0, 0), upright.at(0, 5));
        dueAll(row(0, 3, 3), upright.at(0, -6), upright.at(0, 6), upright.at(1, 0));
    }

    // ---- STEPS

    @Says(words = "If s lies in no CELL of g (it GOES THROUGH no STRIP of g between FLOOR and ROOF of g), there is none.")
    void noStepsForAWallElsewhere() {
        due(0, empty().steps(5, 5));
        WalledFields w = two();
        dueAll(row(1, 3, 3, 3, 2), w.steps(-1, 0), w.steps(1, -1), w.steps(5, -1), w.steps(9, -1), w.steps(11, 0));
        w = likeFirstEnds();
        dueAll(row(1, 3), w.steps(-1, 3), w.steps(5, -1));
        w = likeLastEnds();
        dueAll(row(1, 3, 2), w.steps(-1, 3), w.steps(5, -1), w.steps(11, 3));
    }

    @Says(words = "Else: if the FIRST END of s is behind BEGIN of g (or g has none), it is one more; if the CELL's STRIP is ahead of that END, that is all for s;")
    void stepsForTheFirstEnd() {
        WalledFields w = new WalledFields();
        w.segment(0, 0, 0, 10, 0);
        due(1, w.steps(-1, 0));
        due(1, w.steps(0, -1));
        due(3, w.steps(0, 1));
        w = two();
        dueAll(row(4, 4, 6), w.steps(1, 1), w.steps(2, 4), w.steps(2, 6));
        // It begins where g does: that END isn't asked for.
        w = likeFirstEnds();
        dueAll(row(4, 4), w.steps(5, 1), w.steps(5, 4));
        // It begins ahead of g: likewise.
        due(4, w.steps(10, 2));
        // It begins just behind BEGIN.
        w = likeLastEnds();
        dueAll(row(4, 5, 5), w.steps(0, 2), w.steps(5, 1), w.steps(5, 4));
    }

    @Says(words = "else, if the LAST END of s is ahead of CLOSE of g (or g has none), it is one more; if the STRIP is behind that END, that is all; else one more.")
    void stepsForTheLastEnd() {
        WalledFields w = new WalledFields();
        w.segment(0, 0, 0, 10, 0);
        dueAll(row(3, 3, 2, 2), w.steps(5, 1), w.steps(5, -1), w.steps(10, 1), w.steps(99, 0));
        w = two();
        dueAll(row(6, 6, 5, 5), w.steps(5, 1), w.steps(8, 4), w.steps(8, 6), w.steps(9, 1));
        // It closes behind CLOSE of one g, and ahead of that of the next, which has none.
        w = likeFirstEnds();
        dueAll(row(4, 4, 3), w.steps(5, 1), w.steps(10, 4), w.steps(10, 6));
        dueAll(row(4, 23), w.depth(0), w.depth(1));
        // It closes where g does: that END isn't asked for.
        w = likeLastEnds();
        dueAll(row(5, 5, 2), w.steps(5, 1), w.steps(5, 4), w.steps(10, 1));
        dueAll(row(5, 23), w.depth(0), w.depth(1));
    }

    @Says(words = "let g be the FIELD in which it lies if there were only those ahead of s.")
    void stepsOfAFieldThatFloorOrRoofCloses() {
        // Between a long floor and a short roof a third wall that goes on behind the roof's LAST END.
        WalledFields w = new WalledFields();
        w.segment(0, 0, 0, 40, 0);
        w.segment(0, 0, 20, 20, 20);
        w.segment(0, 10, 10, 30, 10);
        dueAll(row(7, 8, 8, 6, 7, 7, 6), w.steps(5, 10), w.steps(15, 5), w.steps(15, 15), w.steps(15, 25), w.steps(25, 5), w.steps(25, 15), w.steps(35, 5));
        // One that begins ahead of the roof's FIRST END.
        due(1, w.move(1, 20, 20, 40, 20));
        dueAll(row(5, 6, 6, 7, 7, 6), w.steps(5, 5), w.steps(15, 5), w.steps(15, 15), w.steps(25, 5), w.steps(25, 15), w.steps(35, 10));
        // A long roof and a short floor.
        w = new WalledFields();
        w.segment(0, 0, 20, 40, 20);
        w.segment(0, 0, 0, 20, 0);
        w.segment(0, 10, 10, 30, 10);
        dueAll(row(3, 6, 7, 7, 3, 6, 5), w.steps(0, 10), w.steps(5, 10), w.steps(15, 5), w.steps(15, 15), w.steps(15, 25), w.steps(25, 15), w.steps(35, 10));
    }

    @Says(words = "for each SEGMENT s, by their numbers, let g be the FIELD in which it lies if there were only those ahead of s.")
    void stepsGoByNumbers() {
        WalledFields w = likeFirstEnds();
        w.renumber(1);
        // By the longer one first: the other one begins where g does, and closes ahead of it.
        dueAll(row(1, 5, 5, 3), w.steps(-1, 3), w.steps(5, 1), w.steps(5, -1), w.steps(5, 4));
        dueAll(row(4, 2), w.steps(10, 2), w.steps(10, 6));
        dueAll(row(5, 23), w.depth(0), w.depth(1));
    }

    @Says(words = "DEPTH: the greatest STEPS of any CELL. SUM: STEPS of all CELLS, together.")
    void depthAndSumOfNoneAndOne() {
        WalledFields w = new WalledFields();
        dueAll(row(0, 0), w.depth(0), w.depth(1));
        w.segment(0, 99, 99, 99, 98);
        dueAll(row(3, 9), w.depth(0), w.depth(1));
    }

    // ---- ORDERS

    @Says(words = "ORDERS are numbered from 0 on by the SEGMENT that is first, of like ones second, ..")
    void theFirstAndTheLastOrder() {
        int[] orders = {1, 1, 2, 6, 24, 120, 720};
        for (int many = 0; many <= 6; many++) {
            WalledFields w = stack();
            for (int k = many; k < 6; k++) w.drop();
            for (int i = 0; i < many; i++) {
                due(i, w.ordered(0, 10 + i));
                due(many - 1 - i, w.ordered(orders[many] - 1, 10 + i));
            }
            due(finding(BEYOND), w.ordered(orders[many], 0));
            due(finding(BEYOND), w.ordered(-1, 0));
            dueStatus(w, 2);
        }
        WalledFields w = stack();
        for (int first = 0; first < 6; first++) dueAll(row(first, first), w.ordered(120 * first, 10), w.ordered(120 * first + 119, 10));
        dueAll(row(0, 1, 2, 3, 5, 4), w.ordered(1, 10), w.ordered(1, 11), w.ordered(1, 12), w.ordered(1, 13), w.ordered(1, 14), w.ordered(1, 15));
        dueAll(row(0, 5, 4, 3, 2, 1), w.ordered(119, 10), w.ordered(119, 11), w.ordered(119, 12), w.ordered(119, 13), w.ordered(119, 14), w.ordered(119, 15));
    }

    @Says(words = "The BEST ORDER has the least DEPTH, of like ones the least SUM, of like ones the least number.")
    void theBestOrderIsHeldAgainstEach() {
        for (int which = 0; which < 4; which++) {
            WalledFields w = madeBy(which);
            int best = w.best();
            int orders = new int[] {1, 1, 2, 6, 24, 120, 720}[w.count(0)];
            int found = 0;
            for (int order = 0; order < orders; order++) {
                // One object answers some 512 calls.
                if (order % 100 == 99) w = madeBy(which);
                int depth = w.ordered(order, 0) - w.ordered(found, 0);
                int sum = w.ordered(order, 1) - w.ordered(found, 1);
                if (depth < 0 || depth == 0 && sum < 0) found = order;
            }
            due(found, best);
        }
        due(0, empty().best());
        WalledFields alike = new WalledFields();
        for (int k = 0; k < 6; k++) alike.segment(0, 0, k, 1, k);
        WalledFields again = new WalledFields();
        for (int k = 5; k >= 0; k--) again.segment(0, 0, k, 1, k);
        due(alike.ordered(alike.best(), 0), again.ordered(again.best(), 0));
        due(alike.ordered(alike.best(), 1), again.ordered(again.best(), 1));
    }

    @Says(words = "has the least DEPTH, of like ones the least SUM, of like ones the least number.")
    void theBestOrderOfWallsThatAreHardToOrder() {
        int[][][] lands = {
            // The least DEPTH has not the least SUM.
            {{2, 2, 0, 3}, {4, 4, 0, 3}, {1, 4, 0, 3}}, {{0, 4, 3, 0}, {4, 0, 1, 3}, {1, 4, 4, 0}}, {{2, 3, 3, 3}, {1, 0, 3, 0}, {1, 3, 3, 2}},
            {{3, 4, 2, 0}, {0, 2, 1, 2}, {3, 3, 4, 2}, {4, 1, 3, 3}},
            // Of several of the least DEPTH the first has not the least SUM.
            {{2, 4, 0, 3}, {4, 0, 3, 4}, {3, 1, 1, 3}}, {{3, 4, 4, 4}, {2, 1, 0, 3}, {4, 0, 3, 3}}, {{3, 3, 1, 4}, {3, 3, 1, 0}, {3, 0, 1, 0}, {2, 3, 1, 2}},
            {{0, 0, 0, 2}, {3, 0, 4, 4}, {1, 2, 0, 2}, {1, 1, 3, 4}}, {{3, 3, 3, 2}, {0, 2, 1, 0}, {2, 2, 2, 1}, {2, 1, 2, 0}},
            {{1, 1, 2, 2}, {1, 1, 0, 3}, {4, 2, 2, 1}, {4, 3, 2, 2}}, {{3, 1, 4, 2}, {1, 2, 2, 2}, {3, 2, 2, 3}, {4, 2, 3, 4}},
            // It hangs on the CELL ahead of all.
            {{2, 2, 0, 2}, {1, 4, 3, 2}, {1, 3, 1, 4}},
        };
        int[] best = {2, 2, 4, 12, 4, 4, 22, 21, 13, 18, 2, 2};
        for (int k = 0; k < lands.length; k++) {
            WalledFields w = new WalledFields();
            for (int[] p : lands[k]) w.segment(0, p[0], p[1], p[2], p[3]);
            due(lands[k].length, w.count(0));
            due(best[k], w.best());
        }
        WalledFields w = new WalledFields();
        for (int[] p : lands[1]) w.segment(0, p[0], p[1], p[2], p[3]);
        dueAll(row(7, 6, 5, 5, 6, 6), w.ordered(0, 0), w.ordered(1, 0), w.ordered(2, 0), w.ordered(3, 0), w.ordered(4, 0), w.ordered(5, 0));
        dueAll(row(63, 61, 58, 58, 57, 57), w.ordered(0, 1), w.ordered(1, 1), w.ordered(2, 1), w.ordered(3, 1), w.ordered(4, 1), w.ordered(5, 1));
    }

    private static WalledFields madeBy(int which) {
        return which == 0 ? two() : which == 1 ? nested() : which == 2 ? stack() : fan();
    }

    // ---- WAYS

    @Says(words = "or to a CELL of the STRIP next to it with the same FLOOR (or none, both), or the same ROOF (or none, both), for nothing.")
    void aroundAWallForNothing() {
        WalledFields w = new WalledFields();
        w.segment(9, -99, 0, 99, 0);
        due(0, w.cost(w.at(0, -1), w.at(0, 1)));
        // A level wall between two others that meet it at both its ends: there is no way around.
        w.segment(9, -99, 0, 0, 50);
        w.segment(9, 0, 50, 99, 0);
        int inside = w.at(0, 1);
        due(9, w.cost(inside, w.at(0, -1)));
        due(9, w.cost(inside, w.at(0, 99)));
        due(0, w.cost(w.at(0, -1), w.at(0, 99)));
        // Where one of them keeps off by one place there is: by a FLOOR that two STRIPS have in common.
        w.move(2, 1, 50, 99, 0);
        due(0, w.cost(w.at(0, 1), w.at(0, 99)));
        // By a ROOF that two STRIPS have in common.
        w = new WalledFields();
        w.segment(9, -99, 0, 99, 0);
        w.segment(9, -99, 0, 0, -50);
        w.segment(9, 1, -50, 99, 0);
        due(0, w.cost(w.at(-5, -1), w.at(-5, -99)));
        w.move(2, 0, -50, 99, 0);
        due(9, w.cost(w.at(-5, -1), w.at(-5, -99)));
    }

    @Says(words = "in a STRIP over or under the SEGMENT between two (TOLL of it)")
    void aTollOfNoughtIsAWayToo() {
        WalledFields w = nested();
        int inner = w.at(0, 0);
        int ring = w.at(0, -5);
        for (int i = 0; i < 3; i++) {
            w.become(i, 0);
            due(0, w.cost(inner, ring));
            due(0, w.cost(ring, inner));
            w.become(i, 9);
        }
        due(9, w.cost(inner, ring));
    }

    @Says(words = "COST of two FIELDS: the least sum of TOLLS of any WAY from one to the other.")
    void fromLeastToGreatestTolls() {
        WalledFields w = nested();
        w.tide(3);
        for (int i = 0; i < 6; i++) w.become(i, 29);
        due(72, w.cost(w.at(0, 0), w.at(50, 50)));
        due(13, w.within(w.at(0, 0), 72));
        for (int i = 0; i < 6; i++) w.become(i, 0);
        due(0, w.cost(w.at(0, 0), w.at(50, 50)));
        due(13, w.within(w.at(0, 0), 0));
        due(0, empty().cost(0, 0));
    }
}
