import java.util.List;
import java.util.function.ToLongFunction;

/** Boundary cases of the document's Terms: findings, POINTS, SEGMENTS, TOLLS, TIDE, KINDS. */
final class TermBoundaries extends Boundaries {
    // ---- an object, findings

    @Says(words = "An object is used for at most 512 calls after it has been made")
    void theLastCallIsAnsweredToo() {
        WalledFields w = new WalledFields();
        for (int call = 1; call < 512; call++) due(finding(NONE), w.drop());
        due(511, w.status(NONE));
        w = stack();
        for (int call = 7; call < 512; call++) due(1, w.move(call % 6, call % 6 - 20, 10 * (call % 6), call % 7, 10 * (call % 6)));
        due(12, w.many(0));
    }

    @Says(words = "k 0 BEYOND, 1 FULL, 2 KIND, 3 NONE, 4 STATE, 5 MISSING, 6 SIZE, 7 OVER")
    void eachFindingHasItsNumber() {
        WalledFields w = richAndFull();
        long[] before = statusOf(w);
        due(-1000001, w.tide(4));
        due(-1000002, w.segment(0, -50, 0, -40, 0));
        due(-1000003, w.taken(0, 7));
        due(-1000004, w.next(0, 0));
        due(-1000005, w.steps(0, 0));
        due(-1000006, w.taken(9, 6));
        due(-1000007, w.sheet(0, 0, -1));
        due(-1000008, w.count(6));
        for (int k = 0; k < 8; k++) before[k]++;
        before[8] += 8;
        dueAll(before, statusOf(w));
    }

    @Says(words = "(of those that answer longs -1000000000000000001)")
    void findingsOfLongs() {
        WalledFields w = rich();
        long[] before = statusOf(w);
        due(-1000000000000000001L, w.book(2, 0));
        due(-1000000000000000001L, w.item(4, 0));
        due(-1000000000000000006L, w.item(3, 0));
        due(-1000000000000000008L, w.book(1, Long.MAX_VALUE));
        before[BEYOND] += 2;
        before[MISSING]++;
        before[OVER]++;
        before[8] += 4;
        dueAll(before, statusOf(w));
    }

    @Says(words = "Each act tells its findings in the order in which they are asked (that of its words)")
    void ofTwoFindingsTheFirstIsTold() {
        WalledFields full = richAndFull();
        due(finding(BEYOND), full.segment(60, 0, 0, 10, 0));
        due(finding(BEYOND), full.segment(0, 0, 0, 0, 0));
        due(finding(FULL), full.segment(0, 0, 0, 10, 0));
        due(finding(BEYOND), full.move(6, 0, 0, 10, 0));
        due(finding(BEYOND), full.near(0, 0, 4));
        due(finding(BEYOND), full.next(-1, -1));
        due(finding(BEYOND), full.lose(0, 0, 0, 100));
        due(finding(BEYOND), full.kindFor(6, 0, 0, 10, 0));
        due(finding(BEYOND), full.asks(3, 4));
        due(finding(BEYOND), full.asks(4, 3));
        due(finding(BEYOND), full.sheet(0, 3, -1));
        due(finding(BEYOND), full.sheet(4, 0, -1));
        due(finding(BEYOND), full.sheet(4, -1, -1));
        due(finding(MISSING), full.write(3, -1, 0));
        due(longFinding(MISSING), full.item(3, 40));
        due(finding(BEYOND), full.copy(3, 0, 4, 0, 0));
        due(finding(MISSING), full.copy(0, -1, 3, -1, -1));
        due(finding(KIND), full.copy(0, -1, 1, -1, -1));
        due(finding(BEYOND), full.taken(3, 8));
        due(finding(BEYOND), full.taken(10, 6));
        for (int k = 4; k < 120; k += 4) full.feed(0, 4);
        due(finding(BEYOND), full.feed(0, 5));
        due(finding(FULL), full.feed(0, 4));
        due(longFinding(BEYOND), full.book(2, Long.MAX_VALUE));
        due(finding(BEYOND), empty().lose(0, 0, 100, 0));
    }

    @Says(words = "one that answers a finding changes nothing but status() (and THE BLAME, where told)")
    void anyRefusedCallLeavesAllElse() {
        List<ToLongFunction<WalledFields>> calls = List.of(
            w -> w.segment(60, 60, 60, 61, 61), w -> w.move(3, 60, 60, 61, 61), w -> w.become(3, 0), w -> w.become(0, 60), w -> w.of(3, 0),
            w -> w.tide(4), w -> w.blame(3), w -> w.many(4), w -> w.end(6, 0), w -> w.field(10, 0), w -> w.at(100, 0), w -> w.near(1, 1, 4),
            w -> w.sight(1, 1, 1, 1), w -> w.steps(0, 100), w -> w.depth(2), w -> w.ordered(6, 0), w -> w.ordered(0, 13), w -> w.renumber(6),
            w -> w.cost(0, 10), w -> w.next(10, 0), w -> w.within(0, 1000), w -> w.lose(100, 0, 1, 1), w -> w.kindFor(3, 1, 1, 2, 2),
            w -> w.asks(0, 4), w -> w.loose(21), w -> w.row(10, 0), w -> w.alter(10, 0, 5), w -> w.alter(0, 4, 5), w -> w.feed(0x20202020, 5),
            w -> w.sheet(0, 3, 2), w -> w.sheet(0, 0, 41), w -> w.write(0, 3, 1), w -> w.copy(0, 0, 0, 1, 3), w -> w.hold(0, 100, 0),
            w -> w.hold(10, 0, 0), w -> w.taken(0, 8), w -> w.count(7), w -> w.status(8));
        for (ToLongFunction<WalledFields> call : calls) refused(BEYOND, Boundaries::rich, call);
    }

    // ---- POINTS

    @Says(words = "POINTS have x and y (-99 to 99).")
    void theFarthestPointsAreTaken() {
        for (int x : new int[] {-99, 99}) {
            for (int y : new int[] {-99, 99}) {
                WalledFields w = two();
                due(2, w.segment(0, x, y, x, y / 99 * 98));
                due(1, w.move(2, -x, -y, -x, -y / 99 * 98));
                due(2, w.drop());
                due(x < 0 ? 0 : 6, w.at(x, y));
                due(x < 0 ? 0 : 4, w.near(x, y, 2));
                due(1, w.hold(9, x, y));
                due(x < 0 ? 1 : 2, w.steps(x, y));
                due(0, w.sight(x, y, x, -y));
                due(0, w.lose(x, y, -x, -y));
                due(0, w.kindFor(0, x, y, -x, -y));
                dueStatus(w);
            }
        }
    }

    @Says(words = "POINTS have x and y (-99 to 99). ORDER")
    void onePlaceFartherThereIsNoPoint() {
        refusedBeyond((w, x, y) -> w.at(x, y));
        refusedBeyond((w, x, y, u, v) -> w.segment(0, x, y, u, v));
        refusedBeyond((w, x, y, u, v) -> w.lose(x, y, u, v));
    }

    @Says(words = "ORDER: the lesser x first, of like x the lesser y.")
    void orderIsByXThenByY() {
        WalledFields w = new WalledFields();
        w.segment(0, 1, -99, 0, 99);
        dueAll(row(0, 99, 1, -99), w.of(0, 2), w.of(0, 3), w.of(0, 4), w.of(0, 5));
        w.move(0, 0, 99, 1, -99);
        dueAll(row(0, 99, 1, -99), w.of(0, 2), w.of(0, 3), w.of(0, 4), w.of(0, 5));
        w.move(0, 7, 1, 7, 0);
        dueAll(row(7, 0, 7, 1), w.of(0, 2), w.of(0, 3), w.of(0, 4), w.of(0, 5));
        w.move(0, 7, 0, 7, 1);
        dueAll(row(7, 0, 7, 1), w.of(0, 2), w.of(0, 3), w.of(0, 4), w.of(0, 5));
        w.segment(0, 7, -1, 6, 99);
        dueAll(row(6, 99, 7, -1, 7, 0, 7, 1), w.end(0, 0), w.end(0, 1), w.end(1, 0), w.end(1, 1), w.end(2, 0), w.end(2, 1), w.end(3, 0), w.end(3, 1));
    }

    @Says(words = "c is LEFT of a, b, if it is above 0, RIGHT, if it is below 0.")
    void turnsOfOneNoughtAndMinusOne() {
        WalledFields w = new WalledFields();
        w.segment(0, -99, -99, 99, 98);
        due(0, w.near(-98, -98, 0));
        due(-1, w.near(-98, -98, 1));
        due(-1, w.near(98, 97, 0));
        due(0, w.near(98, 97, 1));
        w.move(0, -99, -99, 99, 99);
        for (int k = -98; k < 99; k++) due(200, w.at(k, k));
        due(0, w.near(-99, -98, 0));
        due(0, w.near(98, 99, 0));
        due(0, w.near(-98, -99, 1));
        due(0, w.near(99, 98, 1));
        w.move(0, -99, 99, 99, -99);
        due(200, w.at(0, 0));
        due(-1, w.near(99, -98, 0));
        due(0, w.near(0, 1, 0));
        due(0, w.near(0, -1, 1));
    }

    // ---- TIDE, SEGMENTS, KINDS, WIDTH

    @Says(words = "TIDE (0 to 3; 0 at first).")
    void tideFromNoughtToThree() {
        WalledFields w = new WalledFields();
        due(0, w.count(1));
        for (int v = 0; v <= 3; v++) {
            w.tide(v);
            due(v, w.count(1));
        }
        due(finding(BEYOND), w.tide(4));
        due(finding(BEYOND), w.tide(-1));
        due(3, w.count(1));
    }

    @Says(words = "SEGMENTS 0, 1, .. (at most 6)")
    void sixSegmentsAtMost() {
        WalledFields w = new WalledFields();
        for (int k = 0; k < 6; k++) {
            due(finding(BEYOND), w.of(k, 0));
            due(k, w.segment(0, k, 0, k, 1));
            due(0, w.of(k, 0));
        }
        due(finding(FULL), w.segment(0, 6, 0, 6, 1));
        due(finding(BEYOND), w.of(6, 0));
        due(6, w.count(0));
    }

    @Says(words = "each from its FIRST END to its LAST END (two POINTS; the FIRST is ahead in ORDER)")
    void theFirstEndIsAhead() {
        for (int[] p : new int[][] {{-1, 0, 0, 0}, {0, -1, 0, 0}, {-1, 99, 0, -99}, {-99, -99, 99, 99}, {98, 99, 99, -99}}) {
            WalledFields w = new WalledFields();
            w.segment(0, p[2], p[3], p[0], p[1]);
            dueAll(row(p[0], p[1], p[2], p[3]), w.of(0, 2), w.of(0, 3), w.of(0, 4), w.of(0, 5));
        }
    }

    @Says(words = "with a WIDTH (0 to 9). Told as km: 10 times the KIND, and WIDTH.")
    void eachKindAndWidthCanBeTold() {
        WalledFields w = new WalledFields();
        for (int km = 0; km < 60; km++) {
            due(0, w.segment(km, 0, 0, 1, 1));
            due(km / 10, w.of(0, 0));
            due(km % 10, w.of(0, 1));
            due(0, w.drop());
        }
        due(finding(BEYOND), w.segment(-1, 0, 0, 1, 1));
        due(finding(BEYOND), w.segment(60, 0, 0, 1, 1));
    }

    @Says(words = "1 FENCE, 2 STREAM, 5 ROAD under SEGMENT; 3 HEDGE under FENCE; 4 DITCH under STREAM")
    void eachKindIsUnderThoseAlone() {
        String[] over = {"0", "01", "02", "013", "024", "05"};
        for (int kind = 0; kind < 6; kind++) {
            WalledFields w = two();
            w.become(1, 10 * kind + 9);
            w.hold(0, 5, 5);
            for (int as = 0; as < 6; as++) due(over[kind].indexOf('0' + as) >= 0 ? 1 : finding(KIND), w.taken(0, as));
        }
    }

    // ---- APART

    @Says(words = "Any two are APART: each POINT that they have in common (also one that isn't whole) is an END of both.")
    void aCommonEndIsAllThatTwoMayHave() {
        int[][] apart = {
            {6, 4, 12, 8}, {-6, -4, 0, 0}, {6, 4, 7, 4}, {6, 4, 6, 5}, {6, 4, 0, 3}, {0, 0, 6, 3}, {0, 0, 5, 4}, {0, 0, -6, 4}, {6, 4, 5, 3},
            {0, 0, 0, 1}, {0, 0, 0, -1}, {1, 1, 5, 4}, {1, 0, 6, 3}, {7, 5, 13, 9}, {9, 6, 12, 8}, {-3, -2, -6, -4}, {-99, 1, 99, 99},
        };
        for (int[] p : apart) {
            WalledFields w = new WalledFields();
            w.segment(0, 0, 0, 6, 4);
            due(1, w.segment(0, p[0], p[1], p[2], p[3]));
            due(0, w.blame(0));
        }
        int[][] notApart = {
            {0, 0, 6, 4}, {6, 4, 0, 0}, {0, 0, 3, 2}, {3, 2, 6, 4}, {0, 0, 9, 6}, {-3, -2, 6, 4}, {-3, -2, 3, 2}, {3, 2, 9, 6}, {-3, -2, 9, 6},
            {3, 2, 3, 3}, {3, 2, 4, 2}, {0, 1, 6, -1}, {0, 1, 1, 0}, {5, 4, 6, 3}, {2, 2, 5, 3}, {-1, 1, 1, -1}, {5, 5, 7, 3}, {3, 99, 3, -99},
        };
        for (int[] p : notApart) {
            WalledFields w = new WalledFields();
            w.segment(0, 0, 0, 6, 4);
            due(finding(STATE), w.segment(0, p[0], p[1], p[2], p[3]));
            due(1, w.count(0));
        }
    }

    @Says(words = "Two that aren't: one TOUCHES the other, if an END of either lies on the other; else it CROSSES it.")
    void touchOrCross() {
        int[][] cases = {
            {0, 0, 6, 4, 1}, {0, 0, 3, 2, 1}, {3, 2, 6, 4, 1}, {0, 0, 9, 6, 1}, {-3, -2, 9, 6, 1}, {-3, -2, 3, 2, 1}, {3, 2, 3, 9, 1},
            {3, 9, 3, 2, 1}, {-1, 1, 1, -1, 1}, {5, 5, 7, 3, 1}, {0, 1, 6, -1, 2}, {0, 1, 1, 0, 2}, {2, 2, 5, 3, 2}, {3, 99, 3, 1, 2},
        };
        for (int[] p : cases) {
            WalledFields w = new WalledFields();
            w.segment(0, 0, 0, 6, 4);
            w.segment(0, p[0], p[1], p[2], p[3]);
            dueAll(row(p[4], 0, 0), w.blame(0), w.blame(1), w.blame(2));
        }
        WalledFields near = new WalledFields();
        near.segment(0, -99, -99, 99, 98);
        due(1, near.segment(0, -98, -98, -99, 99));
        due(finding(STATE), near.segment(0, -98, -98, -98, -99));
        due(2, near.blame(0));
    }

    // ---- TOLL

    @Says(words = "TOLL: SEGMENT: WIDTH. FENCE: as a SEGMENT, and 2. STREAM: as a SEGMENT, times TIDE and 1.")
    void tollsOfSegmentsFencesStreams() {
        WalledFields w = two();
        for (int tide = 0; tide <= 3; tide++) {
            w.tide(tide);
            for (int width = 0; width <= 9; width++) {
                w.become(0, width);
                due(width, w.of(0, 6));
                w.become(0, 10 + width);
                due(width + 2, w.of(0, 6));
                w.become(0, 20 + width);
                due(width * (tide + 1), w.of(0, 6));
            }
        }
    }

    @Says(words = "HEDGE: twice a FENCE's.")
    void tollsOfHedges() {
        WalledFields w = two();
        w.tide(3);
        int[] tolls = {4, 6, 8, 10, 12, 14, 16, 18, 20, 22};
        for (int width = 0; width <= 9; width++) {
            w.become(0, 30 + width);
            due(tolls[width], w.of(0, 6));
        }
    }

    @Says(words = "DITCH: as a STREAM, less 3 (0 at least).")
    void aDitchCostsNoughtAtLeast() {
        WalledFields w = two();
        int[][] tolls = {{0, 0, 0, 0, 1, 2, 3, 4, 5, 6}, {0, 0, 1, 3, 5, 7, 9, 11, 13, 15}, {0, 0, 3, 6, 9, 12, 15, 18, 21, 24}, {0, 1, 5, 9, 13, 17, 21, 25, 29, 33}};
        for (int tide = 0; tide <= 3; tide++) {
            w.tide(tide);
            for (int width = 0; width <= 9; width++) {
                w.become(0, 40 + width);
                due(tolls[tide][width], w.of(0, 6));
            }
        }
    }

    @Says(words = "ROAD: half of a SEGMENT's, cut.")
    void aRoadsHalfIsCut() {
        WalledFields w = two();
        w.tide(3);
        int[] tolls = {0, 0, 1, 1, 2, 2, 3, 3, 4, 4};
        for (int width = 0; width <= 9; width++) {
            w.become(0, 50 + width);
            due(tolls[width], w.of(0, 6));
        }
    }

    // ---- THE BLAME

    @Says(words = "THE BLAME is of the latest act (segment, move, text) that a SEGMENT that wouldn't be APART from another one ended: from which one (the least), how, and whether in a TEXT.")
    void theBlameIsOfTheLeastAndTheLatest() {
        WalledFields w = stack();
        w.drop();
        due(finding(STATE), w.segment(0, 0, 50, 0, -5));
        dueAll(row(2, 0, 0), w.blame(0), w.blame(1), w.blame(2));
        due(finding(STATE), w.segment(0, 0, 45, 0, 20));
        dueAll(row(1, 2, 0), w.blame(0), w.blame(1), w.blame(2));
        due(finding(STATE), w.move(0, 0, 45, 0, -5));
        dueAll(row(2, 1, 0), w.blame(0), w.blame(1), w.blame(2));
        due(-1 - 21, read(w, "road from 0 45 to 0 -45"));
        dueAll(row(2, 0, 1), w.blame(0), w.blame(1), w.blame(2));
        due(-1 - 22, read(w, "road from 0 45 to 0 - 035"));
        due(1, w.blame(2));
        due(1, w.move(4, 50, 0, 50, 1));
        due(5, w.segment(0, 60, 0, 60, 1));
        due(finding(FULL), w.segment(0, 0, 45, 0, -5));
        due(-1, read(w, "road from 0 25 to 0 15"));
        due(-1, read(w, "x"));
        due(finding(BEYOND), w.move(6, 0, 45, 0, -5));
        dueAll(row(2, 0, 1), w.blame(0), w.blame(1), w.blame(2));
        due(finding(STATE), w.move(4, 50, 0, 15, 30));
        dueAll(row(1, 3, 0), w.blame(0), w.blame(1), w.blame(2));
    }
}
