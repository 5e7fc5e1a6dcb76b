/** Each promise by itself: ordinary calls, the edges that the document names, wrong calls and their order. */
public final class PromisesTest extends Lands {
    private static final int BEYOND = -1000001, FULL = -1000002, KIND = -1000003, NONE = -1000004;
    private static final int STATE = -1000005, MISSING = -1000006, SIZE = -1000007, OVER = -1000008;
    private static final long LONG_BEYOND = -1000000000000000001L;
    private static final long LONG_MISSING = -1000000000000000006L;
    private static final long LONG_OVER = -1000000000000000008L;

    private static int wrong;
    private static int asked;
    private static int promise;

    private static void due(long want, long got) {
        asked++;
        if (got != want) {
            wrong++;
            StackTraceElement here = Thread.currentThread().getStackTrace()[2];
            System.out.println("promise " + promise + ", line " + here.getLineNumber() + ": answered " + got + ", due is " + want);
        }
    }

    /** How many findings of each kind there are, and all. */
    private static void dueStatus(WalledFields w, int... counts) {
        int all = 0;
        for (int k = 0; k < 8; k++) {
            int count = k < counts.length ? counts[k] : 0;
            all += count;
            asked++;
            if (w.status(k) != count) {
                wrong++;
                StackTraceElement here = Thread.currentThread().getStackTrace()[2];
                System.out.println("promise " + promise + ", line " + here.getLineNumber() + ": status(" + k + ") is " + w.status(k) + ", due is " + count);
            }
        }
        due(all, w.status(-1));
    }

    public static void main(String[] args) {
        promise = 1; newObject();
        promise = 2; segment(); segmentsApart();
        promise = 3; move();
        promise = 4; become();
        promise = 5; drop();
        promise = 6; of(); tolls();
        promise = 7; tide();
        promise = 8; blame();
        promise = 9; many();
        promise = 10; end();
        promise = 11; field(); uprightWalls();
        promise = 12; at();
        promise = 13; near();
        promise = 14; sight();
        promise = 15; steps();
        promise = 16; depth();
        promise = 17; ordered();
        promise = 18; best();
        promise = 19; renumber();
        promise = 20; cost();
        promise = 21; next();
        promise = 22; within();
        promise = 23; lose();
        promise = 24; kindFor();
        promise = 25; asks();
        promise = 26; loose();
        promise = 27; book();
        promise = 28; seed();
        promise = 29; prove();
        promise = 30; row();
        promise = 31; alter();
        promise = 32; judge();
        promise = 33; feed();
        promise = 34; wipe();
        promise = 35; text(); textFaults(); textBlame(); textFull();
        promise = 36; sheet();
        promise = 37; write();
        promise = 38; item();
        promise = 39; copy();
        promise = 40; hold();
        promise = 41; taken();
        promise = 42; image();
        promise = 43; back();
        promise = 44; count();
        promise = 45; status();
        System.out.println(wrong == 0 ? asked + " answers are as due" : wrong + " of " + asked + " answers are not as due");
        if (wrong != 0) System.exit(1);
    }

    private static void newObject() {
        WalledFields w = new WalledFields();
        int[] counts = {0, 0, 1, 0, 0, 0, 0};
        for (int what = 0; what < 7; what++) due(counts[what], w.count(what));
        due(0, w.many(0));
        due(1, w.many(1));
        due(1, w.many(2));
        due(0, w.many(3));
        due(0, w.blame(0));
        due(-1, w.blame(1));
        due(0, w.blame(2));
        dueStatus(w);
        for (int s = 0; s < 4; s++) due(LONG_MISSING, w.item(s, 0));
        for (int spot = 0; spot < 10; spot++) due(MISSING, w.taken(spot, 6));
        due(BEYOND, w.row(0, 0));
        due(NONE, w.back());
        dueStatus(w, 1, 0, 0, 1, 0, 14);
    }

    private static void segment() {
        WalledFields w = new WalledFields();
        due(0, w.segment(39, 99, 99, -99, -99));
        due(-99, w.of(0, 2));
        due(99, w.of(0, 5));
        due(1, w.segment(59, -99, 99, -98, 99));
        for (int km : new int[] {-1, 60, Integer.MIN_VALUE, Integer.MAX_VALUE}) due(BEYOND, w.segment(km, 0, 50, 1, 50));
        for (int far : new int[] {100, -100, Integer.MIN_VALUE, Integer.MAX_VALUE}) {
            due(BEYOND, w.segment(0, far, 50, 1, 51));
            due(BEYOND, w.segment(0, 0, far, 1, 51));
            due(BEYOND, w.segment(0, 0, 50, far, 51));
            due(BEYOND, w.segment(0, 0, 50, 1, far));
        }
        due(BEYOND, w.segment(0, 7, 50, 7, 50));
        due(2, w.count(0));
        for (int k = 2; k < 6; k++) due(k, w.segment(0, k, 50, k, 51));
        due(BEYOND, w.segment(60, 0, 0, 1, 0));
        due(FULL, w.segment(0, -5, 5, 5, -5));
        due(0, w.blame(0));
        due(6, w.count(0));
        dueStatus(w, 22, 1);
    }

    private static void segmentsApart() {
        WalledFields w = new WalledFields();
        due(0, w.segment(0, 0, 0, 6, 4));
        int[][] unlike = {
            {0, 0, 6, 4, 1}, {6, 4, 0, 0, 1}, {3, 2, 9, 9, 1}, {-3, -2, 3, 2, 1}, {0, 0, 3, 2, 1}, {0, 0, 9, 6, 1},
            {3, 2, 6, 4, 1}, {-3, -2, 9, 6, 1}, {3, 0, 3, 2, 1}, {0, 3, 6, -3, 2}, {0, 1, 1, 0, 2}, {3, 0, 3, 9, 1},
        };
        for (int[] u : unlike) {
            boolean isCross = u[4] == 2 || u[0] == 3 && u[1] == 0 && u[3] == 9;
            due(STATE, w.segment(0, u[0], u[1], u[2], u[3]));
            due(isCross ? 2 : 1, w.blame(0));
            due(0, w.blame(1));
        }
        due(1, w.count(0));
        due(1, w.segment(0, 6, 4, 9, 6));
        due(2, w.segment(0, -3, -2, 0, 0));
        due(3, w.segment(0, 6, 4, 6, -4));
        due(4, w.segment(0, 0, 0, 6, -4));
        due(5, w.segment(0, 3, 3, 1, 1));
        dueStatus(w, 0, 0, 0, 0, 12);
    }

    private static void move() {
        WalledFields w = two();
        w.become(1, 47);
        due(1, w.move(1, 9, 5, 3, 5));
        due(3, w.of(1, 2));
        due(9, w.of(1, 4));
        due(4, w.of(1, 0));
        due(7, w.of(1, 1));
        due(1, w.move(1, 3, 5, 6, 5));
        due(BEYOND, w.move(2, 0, 50, 1, 50));
        due(BEYOND, w.move(-1, 0, 50, 1, 50));
        due(BEYOND, w.move(0, 100, 50, 1, 50));
        due(BEYOND, w.move(0, 1, -100, 2, 50));
        due(BEYOND, w.move(0, 1, 50, 100, 50));
        due(BEYOND, w.move(0, 1, 50, 2, 100));
        due(BEYOND, w.move(0, 1, 50, 1, 50));
        due(STATE, w.move(1, 4, 5, 4, -5));
        due(2, w.blame(0));
        due(0, w.blame(1));
        due(STATE, w.move(0, 4, 5, 4, -5));
        due(1, w.blame(0));
        due(1, w.blame(1));
        due(3, w.of(1, 2));
        due(0, w.of(0, 2));
        due(7, w.many(2));
        due(1, w.move(0, 3, 5, 0, 0));
        due(6, w.many(2));
        dueStatus(w, 7, 0, 0, 0, 2);
    }

    private static void become() {
        WalledFields w = two();
        due(0, w.become(0, 59));
        due(5, w.become(0, 38));
        due(3, w.of(0, 0));
        due(8, w.of(0, 1));
        due(BEYOND, w.become(2, 0));
        due(BEYOND, w.become(-1, 0));
        due(BEYOND, w.become(0, 60));
        due(BEYOND, w.become(0, -1));
        due(3, w.of(0, 0));
        dueStatus(w, 4);
    }

    private static void drop() {
        WalledFields w = two();
        due(1, w.drop());
        due(4, w.many(2));
        due(0, w.drop());
        due(1, w.many(2));
        due(NONE, w.drop());
        due(0, w.count(0));
        dueStatus(w, 0, 0, 0, 1);
    }

    private static void of() {
        WalledFields w = two();
        int[] lower = {0, 3, 0, 0, 10, 0, 3, 3, 1};
        int[] upper = {0, 2, 2, 5, 8, 5, 2, 1, 1};
        for (int what = 0; what < 9; what++) {
            due(lower[what], w.of(0, what));
            due(upper[what], w.of(1, what));
        }
        due(BEYOND, w.of(0, 9));
        due(BEYOND, w.of(0, -1));
        due(BEYOND, w.of(2, 0));
        due(BEYOND, w.of(-1, 0));
        dueStatus(w, 4);
    }

    private static void tolls() {
        WalledFields w = two();
        int[][] dueTolls = {{0, 1, 7, 9}, {2, 3, 9, 11}, {0, 1, 7, 9}, {4, 6, 18, 22}, {0, 0, 4, 6}, {0, 0, 3, 4}};
        int[] widths = {0, 1, 7, 9};
        for (int kind = 0; kind < 6; kind++) {
            for (int k = 0; k < 4; k++) {
                w.become(0, 10 * kind + widths[k]);
                w.tide(0);
                due(dueTolls[kind][k], w.of(0, 6));
                w.tide(3);
                int flood = kind == 2 ? 4 * widths[k] : kind == 4 ? Math.max(0, 4 * widths[k] - 3) : dueTolls[kind][k];
                due(flood, w.of(0, 6));
            }
        }
    }

    private static void tide() {
        WalledFields w = new WalledFields();
        due(0, w.tide(3));
        due(3, w.tide(1));
        due(BEYOND, w.tide(4));
        due(BEYOND, w.tide(-1));
        due(1, w.count(1));
        dueStatus(w, 2);
    }

    private static void blame() {
        WalledFields w = two();
        due(STATE, w.segment(0, 5, 9, 5, -9));
        due(2, w.blame(0));
        due(0, w.blame(1));
        due(0, w.blame(2));
        due(STATE, w.segment(0, 5, 9, 5, 5));
        due(1, w.blame(0));
        due(1, w.blame(1));
        due(BEYOND, w.segment(0, 5, 5, 5, 5));
        due(2, w.segment(0, 20, 0, 30, 0));
        due(1, w.blame(1));
        w.image();
        w.renumber(5);
        w.back();
        due(1, w.blame(1));
        due(-49, read(w, "segment from 40 0 to 50 0;road from 45 5 to 45 -5"));
        due(2, w.blame(0));
        due(3, w.blame(1));
        due(1, w.blame(2));
        due(1, w.move(1, -3, 0, 0, 0));
        due(1, w.move(1, 10, 0, 19, 1));
        due(STATE, w.move(1, 9, 0, 20, 0));
        due(1, w.blame(0));
        due(0, w.blame(1));
        due(0, w.blame(2));
        due(BEYOND, w.blame(3));
        due(BEYOND, w.blame(-1));
        dueStatus(w, 3, 0, 0, 0, 3);
    }

    private static void many() {
        WalledFields w = two();
        int[] counts = {4, 9, 7, 4};
        for (int what = 0; what < 4; what++) due(counts[what], w.many(what));
        due(BEYOND, w.many(4));
        due(BEYOND, w.many(-1));
        w = nested();
        due(6, w.many(0));
        due(13, w.many(2));
        w = new WalledFields();
        for (int k = 0; k < 6; k++) w.segment(0, k - 20, k, k + 20, k);
        due(12, w.many(0));
        due(49, w.many(1));
        due(19, w.many(2));
        dueStatus(w);
    }

    private static void end() {
        WalledFields w = two();
        int[][] ends = {{0, 0, 1, 0}, {2, 5, 1, 0}, {8, 5, 0, 1}, {10, 0, 0, 1}};
        for (int e = 0; e < 4; e++) {
            for (int what = 0; what < 4; what++) due(ends[e][what], w.end(e, what));
        }
        due(2, w.segment(0, 8, 5, 8, 9));
        due(3, w.segment(0, 8, 5, 9, 5));
        due(2, w.end(2, 2));
        due(1, w.end(2, 3));
        due(9, w.end(3, 1));
        due(BEYOND, w.end(6, 0));
        due(BEYOND, w.end(-1, 0));
        due(BEYOND, w.end(0, 4));
        due(BEYOND, w.end(0, -1));
        due(BEYOND, new WalledFields().end(0, 0));
        dueStatus(w, 4);
    }

    private static final int[][] FIELDS_OF_TWO = {
        {-1, -1, -1, 0, 1}, {-1, 0, 0, 3, 3}, {0, -1, 0, 1, 1}, {0, 1, 1, 2, 1}, {1, -1, 1, 2, 1}, {0, -1, 2, 3, 1}, {-1, -1, 3, -1, 1},
    };

    private static void field() {
        WalledFields w = two();
        for (int f = 0; f < 7; f++) {
            for (int what = 0; what < 5; what++) due(FIELDS_OF_TWO[f][what], w.field(f, what));
        }
        due(BEYOND, w.field(7, 0));
        due(BEYOND, w.field(-1, 0));
        due(BEYOND, w.field(0, 5));
        due(BEYOND, w.field(0, -1));
        dueStatus(w, 4);
        int[] alone = {-1, -1, -1, -1, 1};
        for (int what = 0; what < 5; what++) due(alone[what], new WalledFields().field(0, what));
    }

    /** Of ENDS above one another the lower is ahead: what is left of an upright wall is over it. */
    private static void uprightWalls() {
        WalledFields w = new WalledFields();
        w.segment(0, 0, 5, 0, -5);
        w.segment(0, -4, 0, -1, 0);
        w.segment(0, 4, 1, -2, 9);
        due(6, w.many(0));
        due(-1, w.near(-3, -1, 0));
        due(0, w.at(-9, 0));
        due(w.field(w.at(1, 0), 0), w.near(1, 0, 0));
        due(-1, w.near(1, 0, 0));
        due(2, w.near(1, 0, 1));
        due(200, w.at(0, 0));
        int over = 0;
        int under = 0;
        for (int f = 0; f < w.many(2); f++) {
            if (w.field(f, 0) == 0 && w.field(f, 1) == 2) over++;
            if (w.field(f, 0) == -1 && w.field(f, 1) == 0) under++;
        }
        due(1, over);
        due(1, under);
    }

    private static void at() {
        WalledFields w = two();
        int[][] points = {
            {-99, -99, 0}, {-1, 0, 0}, {0, -1, 0}, {0, 1, 2}, {2, 4, 2}, {2, 6, 4}, {1, -1, 1}, {9, -1, 1}, {5, 1, 3}, {5, 6, 4},
            {8, 4, 3}, {8, 6, 5}, {10, -1, 1}, {10, 1, 6}, {99, 99, 6}, {0, 0, 100}, {2, 5, 101}, {8, 5, 102}, {10, 0, 103},
            {5, 0, 200}, {3, 5, 201},
        };
        for (int[] p : points) due(p[2], w.at(p[0], p[1]));
        due(BEYOND, w.at(100, 0));
        due(BEYOND, w.at(-100, 0));
        due(BEYOND, w.at(0, 100));
        due(BEYOND, w.at(0, Integer.MIN_VALUE));
        dueStatus(w, 4);
        due(0, new WalledFields().at(99, -99));
    }

    private static void near() {
        WalledFields w = two();
        int[][] points = {{5, 6, 1, -1, 2, 2}, {5, 1, 0, 1, 2, 1}, {5, -1, -1, 0, 2, 0}, {-3, 3, -1, -1, 0, 0}, {9, 3, 0, -1, 3, 1}, {11, 0, -1, -1, 4, 0}};
        for (int[] p : points) {
            for (int what = 0; what < 4; what++) due(p[2 + what], w.near(p[0], p[1], what));
        }
        due(BEYOND, w.near(0, 0, 4));
        due(BEYOND, w.near(0, 0, -1));
        due(BEYOND, w.near(100, 0, 0));
        due(BEYOND, w.near(0, -100, 0));
        due(STATE, w.near(0, 0, 0));
        due(STATE, w.near(1, 0, 3));
        dueStatus(w, 4, 0, 0, 0, 2);
    }

    private static void sight() {
        WalledFields w = two();
        due(2, w.sight(5, 9, 5, -9));
        due(1, w.sight(5, 9, 5, 5));
        due(2, w.sight(5, 5, 5, 0));
        due(0, w.sight(5, 4, 5, 1));
        due(1, w.sight(-5, 0, 0, 0));
        due(1, w.sight(20, 0, 3, 0));
        due(0, w.sight(11, 0, 12, 0));
        due(1, w.sight(3, 0, 4, 0));
        due(1, w.sight(-1, 1, 1, -1));
        due(1, w.sight(0, 6, 4, 4));
        due(0, w.sight(-1, 1, 1, -2));
        due(BEYOND, w.sight(5, 5, 5, 5));
        due(BEYOND, w.sight(100, 5, 5, 5));
        due(BEYOND, w.sight(0, 100, 5, 5));
        due(BEYOND, w.sight(0, 5, -100, 5));
        due(BEYOND, w.sight(0, 5, 5, -100));
        due(0, new WalledFields().sight(0, 0, 1, 1));
        dueStatus(w, 5);
    }

    private static void steps() {
        WalledFields w = two();
        int[][] points = {{-1, 0, 1}, {1, -1, 3}, {1, 1, 4}, {5, -1, 3}, {5, 1, 6}, {5, 6, 6}, {9, -1, 3}, {9, 1, 5}, {11, 0, 2}};
        for (int[] p : points) due(p[2], w.steps(p[0], p[1]));
        w.renumber(1);
        int[] then = {2, 3, 3, 4, 4, 3, 4, 4, 3};
        for (int k = 0; k < 9; k++) due(then[k], w.steps(points[k][0], points[k][1]));
        due(BEYOND, w.steps(100, 0));
        due(BEYOND, w.steps(0, -100));
        due(STATE, w.steps(0, 0));
        due(STATE, w.steps(1, 0));
        dueStatus(w, 2, 0, 0, 0, 2);
        due(0, new WalledFields().steps(0, 0));
    }

    private static void depth() {
        WalledFields w = two();
        due(6, w.depth(0));
        due(33, w.depth(1));
        w.drop();
        due(3, w.depth(0));
        due(9, w.depth(1));
        w.drop();
        due(0, w.depth(0));
        due(0, w.depth(1));
        due(BEYOND, w.depth(2));
        due(BEYOND, w.depth(-1));
        dueStatus(w, 2);
    }

    private static void ordered() {
        WalledFields w = two();
        int[][] dues = {{6, 33, 0, 1}, {4, 30, 1, 0}};
        for (int order = 0; order < 2; order++) {
            due(dues[order][0], w.ordered(order, 0));
            due(dues[order][1], w.ordered(order, 1));
            due(dues[order][2], w.ordered(order, 10));
            due(dues[order][3], w.ordered(order, 11));
        }
        due(6, w.depth(0));
        for (int what : new int[] {2, 9, 12, -1, Integer.MIN_VALUE, Integer.MAX_VALUE}) due(BEYOND, w.ordered(0, what));
        due(BEYOND, w.ordered(2, 0));
        due(BEYOND, w.ordered(-1, 0));
        dueStatus(w, 8);
        w = nested();
        int[] order = {3, 1, 5, 0, 2, 4};
        for (int i = 0; i < 6; i++) due(order[i], w.ordered(3 * 120 + 24 + 3 * 6, 10 + i));
        due(BEYOND, w.ordered(720, 0));
        due(5, w.ordered(719, 10));
        due(0, new WalledFields().ordered(0, 1));
        due(BEYOND, new WalledFields().ordered(0, 10));
    }

    private static void best() {
        WalledFields w = two();
        due(1, w.best());
        due(1, w.best());
        w.renumber(1);
        due(0, w.best());
        w.drop();
        due(0, w.best());
        due(0, new WalledFields().best());
        w = nested();
        int best = w.best();
        for (int order = 0; order < 720; order++) {
            WalledFields other = nested();
            int depth = other.ordered(order, 0) - other.ordered(best, 0);
            int sum = other.ordered(order, 1) - other.ordered(best, 1);
            boolean isWorse = depth > 0 || depth == 0 && (sum > 0 || sum == 0 && order >= best);
            due(1, isWorse ? 1 : 0);
        }
    }

    private static void renumber() {
        WalledFields w = two();
        w.segment(14, 20, 0, 30, 0);
        w.hold(0, 5, 0);
        due(1, w.renumber(3));
        int[] firstX = {2, 20, 0};
        for (int i = 0; i < 3; i++) due(firstX[i], w.of(i, 2));
        due(1, w.of(1, 0));
        due(4, w.of(1, 1));
        due(202, w.at(5, 0));
        due(2, w.near(5, 1, 0));
        due(0, w.taken(0, 0));
        due(BEYOND, w.renumber(6));
        due(BEYOND, w.renumber(-1));
        due(2, w.of(0, 2));
        due(1, new WalledFields().renumber(0));
        due(BEYOND, new WalledFields().renumber(1));
        dueStatus(w, 2);
    }

    private static void cost() {
        WalledFields w = two();
        for (int f = 0; f < 7; f++) {
            for (int g = 0; g < 7; g++) due(0, w.cost(f, g));
        }
        due(BEYOND, w.cost(7, 0));
        due(BEYOND, w.cost(0, 7));
        due(BEYOND, w.cost(-1, 0));
        due(BEYOND, w.cost(0, -1));
        dueStatus(w, 4);
        w = nested();
        int inner = w.at(0, 0);
        int ring = w.at(0, -5);
        int outside = w.at(50, 50);
        due(5, w.cost(inner, ring));
        due(7, w.cost(ring, outside));
        due(12, w.cost(inner, outside));
        due(12, w.cost(outside, inner));
        due(0, w.cost(inner, inner));
        w.become(4, 43);
        due(5, w.cost(inner, outside));
        w.tide(3);
        due(12, w.cost(inner, outside));
        w.become(4, 42);
        due(10, w.cost(inner, outside));
        w.become(2, 53);
        due(6, w.cost(inner, outside));
    }

    private static void next() {
        WalledFields w = two();
        due(2, w.next(3, 1));
        due(0, w.next(1, 3));
        due(1, w.next(0, 6));
        due(1, w.next(6, 0));
        w.become(0, 0);
        due(1, w.next(3, 1));
        due(NONE, w.next(3, 3));
        due(BEYOND, w.next(7, 7));
        due(BEYOND, w.next(0, 7));
        due(BEYOND, w.next(-1, 0));
        due(BEYOND, w.next(0, -1));
        dueStatus(w, 4, 0, 0, 1);
        w = nested();
        w.become(0, 4);
        due(w.at(0, -5), w.next(w.at(0, 0), w.at(0, 50)));
    }

    private static void within() {
        WalledFields w = two();
        due(7, w.within(3, 0));
        due(BEYOND, w.within(7, 0));
        due(BEYOND, w.within(-1, 0));
        due(BEYOND, w.within(0, 1000));
        due(BEYOND, w.within(0, -1));
        due(7, w.within(0, 999));
        dueStatus(w, 4);
        w = nested();
        int inner = w.at(0, 0);
        int alone = w.within(inner, 0);
        due(alone, w.within(inner, 4));
        due(1, alone < w.within(inner, 5) ? 1 : 0);
        due(w.within(inner, 5), w.within(inner, 11));
        due(13, w.within(inner, 12));
    }

    private static void lose() {
        WalledFields w = nested();
        due(3, w.lose(0, 0, 50, 50));
        due(3, w.lose(50, 50, 0, 0));
        due(0, w.lose(0, 0, 0, -5));
        due(0, w.lose(0, 0, 0, 0));
        w.become(0, 0);
        due(3, w.lose(0, 0, 50, 50));
        w.become(5, 0);
        due(0, w.lose(0, 0, 50, 50));
        w.become(0, 5);
        due(0, w.lose(0, 0, 50, 50));
        due(BEYOND, w.lose(100, 0, 50, 50));
        due(BEYOND, w.lose(0, 100, 50, 50));
        due(BEYOND, w.lose(-9, -9, -100, 50));
        due(BEYOND, w.lose(0, 0, 50, -100));
        due(STATE, w.lose(-9, -9, 50, 50));
        due(STATE, w.lose(50, 50, 0, -1));
        due(6, w.count(0));
        due(13, w.many(2));
        dueStatus(w, 4, 0, 0, 0, 2);
        w = new WalledFields();
        due(BEYOND, w.lose(0, 0, 50, 100));
        due(NONE, w.lose(0, 0, 50, 50));
        dueStatus(w, 1, 0, 0, 1);
    }

    private static void kindFor() {
        WalledFields w = nested();
        due(5, w.kindFor(3, 0, 0, 50, 50));
        due(0, w.kindFor(3, 0, 0, 0, -5));
        due(0, w.become(3, 42));
        due(4, w.kindFor(3, 0, 0, 50, 50));
        w.become(3, 14);
        w.tide(0);
        due(4, w.kindFor(3, 0, 0, 50, 50));
        w.tide(3);
        due(5, w.kindFor(3, 0, 0, 50, 50));
        w.become(3, 10);
        due(0, w.kindFor(3, 0, 0, 50, 50));
        due(1, w.of(3, 0));
        due(BEYOND, w.kindFor(6, 0, 0, 50, 50));
        due(BEYOND, w.kindFor(-1, 0, 0, 50, 50));
        due(BEYOND, w.kindFor(0, 100, 0, 50, 50));
        due(BEYOND, w.kindFor(0, -9, -9, 50, 100));
        due(STATE, w.kindFor(0, -9, -9, 50, 50));
        due(STATE, w.kindFor(0, 50, 50, 0, -1));
        dueStatus(w, 4, 0, 0, 0, 2);
        due(BEYOND, new WalledFields().kindFor(0, 0, 0, 50, 50));
    }

    private static void asks() {
        WalledFields w = two();
        w.sheet(0, 0, 7);
        w.sheet(1, 2, 9);
        int[] numbers = {5, 0, 5, 1, -99, 99, 3};
        for (int i = 0; i < 7; i++) w.write(0, i, numbers[i]);
        w.write(1, 3, 77);
        due(3, w.asks(0, 1));
        long[] answers = {200, 3, 0, 77};
        for (int i = 0; i < 4; i++) due(answers[i], w.item(1, i));
        w.sheet(2, 0, 2);
        due(2, w.asks(0, 2));
        due((byte) 200, w.item(2, 0));
        w.write(0, 3, 100);
        due(1, w.asks(0, 1));
        w.write(0, 0, -100);
        due(0, w.asks(0, 1));
        w.sheet(0, 2, 4);
        w.write(0, 2, 1L << 32);
        due(1, w.asks(0, 0));
        due(100, w.item(0, 0));
        due(0, w.asks(0, 0));
        w.sheet(2, 1, 0);
        due(0, w.asks(0, 2));
        due(0, w.asks(2, 0));
        due(BEYOND, w.asks(4, 3));
        due(BEYOND, w.asks(3, 4));
        due(BEYOND, w.asks(-1, 0));
        due(BEYOND, w.asks(0, -1));
        due(MISSING, w.asks(3, 0));
        due(MISSING, w.asks(0, 3));
        dueStatus(w, 4, 0, 0, 0, 0, 2);
    }

    private static void loose() {
        WalledFields w = new WalledFields();
        due(20, w.loose(20));
        due(0, w.count(6));
        int z = 1;
        for (int k = 0; k < 40; k++) z = z * 1103515245 + 12345;
        due(z, w.count(2));
        w.segment(0, -99, 0, 99, 0);
        w.segment(0, -99, 1, -98, 1);
        long steps = 0;
        int held = 0;
        for (int k = 0; k < 20; k++) {
            int x = ((z = z * 1103515245 + 12345) >>> 8) % 199 - 99;
            int y = ((z = z * 1103515245 + 12345) >>> 8) % 199 - 99;
            boolean isHeld = w.at(x, y) < 100;
            held += isHeld ? 1 : 0;
            steps += isHeld ? w.steps(x, y) : 1;
        }
        due(held, w.loose(20));
        due(steps, w.count(6));
        due(z, w.count(2));
        due(BEYOND, w.loose(0));
        due(BEYOND, w.loose(21));
        w.book(0, Long.MAX_VALUE - steps - 2);
        due(OVER, w.loose(20));
        due(z, w.count(2));
        due(Long.MAX_VALUE - 2, w.book(0, 0));
        dueStatus(w, 2, 0, 0, 0, 0, 0, 0, 1);
        looseOnWalls();
    }

    /** A seed is looked for whose first POINT is an END, or on a SEGMENT: it counts 1, and isn't held. */
    private static void looseOnWalls() {
        int seed = 0;
        while (true) {
            int z = seed * 1103515245 + 12345;
            int x = (z >>> 8) % 199 - 99;
            z = z * 1103515245 + 12345;
            int y = (z >>> 8) % 199 - 99;
            if (y == 0 && x > -50) break;
            seed++;
        }
        WalledFields w = new WalledFields();
        w.segment(0, -99, 0, 99, 0);
        w.seed(seed);
        due(0, w.loose(1));
        due(1, w.count(6));
        int z = seed * 1103515245 + 12345;
        int x = (z >>> 8) % 199 - 99;
        for (int end = 0; end < 2; end++) {
            w = new WalledFields();
            w.segment(0, x, 0, x, end == 0 ? 9 : -9);
            w.seed(seed);
            due(0, w.loose(1));
            due(1, w.count(6));
        }
    }

    private static void book() {
        WalledFields w = new WalledFields();
        due(7, w.book(0, 7));
        due(-21, w.book(1, -3));
        due(0, w.book(1, 0));
        due(Long.MIN_VALUE, w.book(0, Long.MIN_VALUE));
        due(LONG_OVER, w.book(0, -1));
        due(LONG_OVER, w.book(1, -1));
        due(LONG_OVER, w.book(1, 2));
        due(Long.MIN_VALUE, w.book(1, 1));
        due(-1, w.book(0, Long.MAX_VALUE));
        due(LONG_OVER, w.book(1, Long.MIN_VALUE));
        due(LONG_OVER, w.book(0, Long.MIN_VALUE));
        due(1, w.book(1, -1));
        due(Long.MIN_VALUE, w.book(1, Long.MIN_VALUE));
        due(0, w.book(1, 0));
        due(Long.MAX_VALUE, w.book(0, Long.MAX_VALUE));
        due(LONG_OVER, w.book(0, 1));
        due(-Long.MAX_VALUE, w.book(1, -1));
        due(LONG_OVER, w.book(1, 3037000500L));
        due(LONG_BEYOND, w.book(2, 0));
        due(LONG_BEYOND, w.book(-1, 0));
        dueStatus(w, 2, 0, 0, 0, 0, 0, 0, 7);
    }

    private static void seed() {
        WalledFields w = new WalledFields();
        due(1, w.seed(BEYOND));
        due(BEYOND, w.seed(Integer.MIN_VALUE));
        due(Integer.MIN_VALUE, w.seed(0));
        dueStatus(w);
    }

    private static void prove() {
        WalledFields w = two();
        due(7, w.prove());
        due(7, w.count(3));
        for (int k = 0; k < 7; k++) {
            for (int what = 0; what < 4; what++) due(FIELDS_OF_TWO[k][what], w.row(k, what));
        }
        w.drop();
        due(7, w.count(3));
        due(4, w.prove());
        due(4, w.count(3));
        dueStatus(w);
    }

    private static void row() {
        WalledFields w = two();
        due(BEYOND, w.row(0, 0));
        w.prove();
        due(BEYOND, w.row(7, 0));
        due(BEYOND, w.row(-1, 0));
        due(BEYOND, w.row(0, 4));
        due(BEYOND, w.row(0, -1));
        due(-1, w.row(6, 3));
        w.drop();
        due(0, w.row(3, 0));
        dueStatus(w, 5);
    }

    private static void alter() {
        WalledFields w = two();
        due(BEYOND, w.alter(0, 0, 0));
        w.prove();
        due(3, w.alter(1, 3, OVER));
        due(OVER, w.alter(1, 3, 9));
        due(9, w.row(1, 3));
        due(3, w.field(1, 3));
        due(BEYOND, w.alter(7, 0, 0));
        due(BEYOND, w.alter(-1, 0, 0));
        due(BEYOND, w.alter(0, 4, 0));
        due(BEYOND, w.alter(0, -1, 0));
        dueStatus(w, 5);
    }

    private static void judge() {
        WalledFields w = two();
        due(1, w.judge());
        w.prove();
        due(0, w.judge());
        w.alter(6, 3, 5);
        due(7, w.judge());
        w.alter(2, 0, 5);
        due(3, w.judge());
        w.alter(2, 0, 0);
        w.alter(6, 3, -1);
        due(0, w.judge());
        w.segment(0, 50, 0, 60, 0);
        due(7, w.judge());
        w.drop();
        due(0, w.judge());
        w.become(0, 19);
        due(0, w.judge());
        w.drop();
        due(2, w.judge());
        w = new WalledFields();
        w.prove();
        w.alter(0, 3, 0);
        w.segment(0, 0, 0, 1, 0);
        due(2, w.judge());
        w.prove();
        w.drop();
        due(1, w.judge());
        w.alter(0, 3, -1);
        due(2, w.judge());
        dueStatus(w);
    }

    private static void feed() {
        WalledFields w = new WalledFields();
        due(4, w.feed(0x74696465, 4));
        due(5, w.feed(0x7a7a7a20, 1));
        due(6, w.feed(0x32, 1));
        due(1, w.text());
        due(2, w.count(1));
        due(3, w.feed(0x41746964, 3));
        due(5, w.feed(0x42426533, 2));
        due(1, w.text());
        due(3, w.count(1));
        due(BEYOND, w.feed(0, 0));
        due(BEYOND, w.feed(0, 5));
        due(BEYOND, w.feed(0, -1));
        for (int k = 1; k < 30; k++) due(4 * k, w.feed(0x20202020, 4));
        due(119, w.feed(0x20202020, 3));
        due(BEYOND, w.feed(0, 5));
        due(FULL, w.feed(0, 2));
        due(119, w.count(5));
        due(120, w.feed(0, 1));
        due(FULL, w.feed(0, 1));
        due(FULL, w.feed(0, 4));
        due(120, w.wipe());
        for (int k = 1; k <= 30; k++) due(4 * k, w.feed(0x20202020, 4));
        due(-121, w.text());
        dueStatus(w, 4, 3);
    }

    private static void wipe() {
        WalledFields w = new WalledFields();
        due(0, w.wipe());
        w.feed(0, 3);
        due(3, w.wipe());
        due(0, w.count(5));
        due(0, w.wipe());
        dueStatus(w);
    }

    private static void text() {
        WalledFields w = new WalledFields();
        String[] words = {"segment", "fence", "stream", "hedge", "ditch", "road"};
        for (int kind = 0; kind < 6; kind++) {
            String wide = kind == 3 ? "" : " wide " + (kind + 4);
            due(1, read(w, words[kind] + wide + " from " + kind + " 9 to -" + kind + "- 9"));
            due(kind + 1, w.count(0));
            due(kind, w.of(kind, 0));
            due(kind == 3 ? 0 : kind + 4, w.of(kind, 1));
            due(-kind, w.of(kind, 2));
            due(-9, w.of(kind, 3));
            due(kind, w.of(kind, 4));
            if (kind > 0) due(0, w.blame(0));
            w.move(kind, 10 + kind, 0, 10 + kind, 1);
        }
        due(3, read(w, "tide 1;tide 3 ; tide2"));
        due(2, w.count(1));
        due(0, w.count(5));
        w = new WalledFields();
        due(2, read(w, "  road wide9from0 5to1 6;fence from-99 99to0099- 098  "));
        due(9, w.of(0, 1));
        due(99, w.of(1, 4));
        due(-98, w.of(1, 5));
        due(4, w.many(0));
        due(7, w.many(2));
        dueStatus(w);
    }

    private static void textFaults() {
        String[] texts = {
            "", "   ", ";", "tide", "tide ", "tide 4", "tide 3;", "tide 3; ", "tide -1", "tide 3 3", "tides 3", "Tide 3", "tide 100",
            "tide 3;;tide 2", "tide 3.", "3", "-", "wide", "road", "road wide", "road wide 10 from 0 0 to 1 1", "road wide wide",
            "road from", "road from 0", "road from 0 0", "road from 0 0 1 1", "road from 0 0 to", "road from 0 0 to 1", "road from 0 0 to 1 -",
            "road from 0 0 to 1 - -1", "road from 100 0 to 1 1", "road from 0 -100 to 1 1", "road from 0 0 to 1 1 wide 3",
            "road from 0 0 to 0 - 0", "road from 5 5 to 5 5;", "road to 0 0 from 1 1", "roadfrom 0 0 to 1 1", "road from 0 0 to 1 1 tide 3",
            "tide 2;road from 0 0 to 1 99999999999999999999", "tide\t2", "tide 3\u00e9", "road from 0 0 to 4 4;segment from 0 4 to 4 0;",
            "road from 0 0 to 4 4;segment from 0 4 to - 4 -0 0", "tidez 3", "atide 3", "tide 3:", "tide 3/", "tide`3", "tide{3", "tide 3:tide 2",
        };
        int[] faults = {
            0, 3, 0, 4, 5, 5, 7, 8, 5, 7, 0, 0, 5,
            7, 6, 0, 0, 0, 4, 9, 10, 10,
            9, 11, 13, 14, 16, 18, 20,
            21, 10, 13, 21,
            21, 19, 5, 0, 21,
            26, 4, 6, 43,
            48, 0, 0, 6, 6, 4, 4, 6,
        };
        for (int k = 0; k < texts.length; k++) {
            WalledFields w = new WalledFields();
            w.segment(0, 50, 50, 60, 60);
            w.tide(1);
            w.prove();
            due(-1 - faults[k], read(w, texts[k]));
            due(0, w.count(5));
            due(1, w.count(0));
            due(1, w.count(1));
            due(0, w.judge());
            due(k == 41 ? 2 : 0, w.blame(0));
            due(k == 41 ? 1 : -1, w.blame(1));
            due(k == 41 ? 1 : 0, w.blame(2));
            dueStatus(w);
        }
    }

    private static void textBlame() {
        WalledFields w = two();
        due(-29, read(w, "fence wide 3 from 5 9 to 5 -9"));
        due(2, w.blame(0));
        due(0, w.blame(1));
        due(1, w.blame(2));
        due(-28, read(w, "tide 3;road from 20 9 to 5 0005;;"));
        due(1, w.blame(0));
        due(1, w.blame(1));
        due(STATE, w.segment(0, 2, 5, 8, 5));
        due(0, w.blame(2));
        due(-19, read(w, "tide 2;fence wide x from 5 9 to 5 0"));
        due(1, w.blame(1));
        due(0, w.blame(2));
        due(0, w.count(1));
        dueStatus(w, 0, 0, 0, 0, 1);
    }

    private static void textFull() {
        WalledFields w = nested();
        due(-8, read(w, "tide 2;road from 50 50 to 60 60"));
        due(0, w.count(1));
        due(-1, read(w, "road from"));
        due(1, read(w, "tide 2"));
        due(5, w.drop());
        due(-26, read(w, "road from 50 50 to 60 60;road from 70 70 to 70 71"));
        due(5, w.count(0));
        due(2, read(w, "road from 50 50 to 60 60;tide 0"));
        due(6, w.count(0));
        due(107, w.at(60, 60));
        dueStatus(w);
    }

    private static void sheet() {
        WalledFields w = new WalledFields();
        due(40, w.sheet(0, 2, 40));
        w.write(0, 39, 5);
        due(40, w.sheet(0, 2, 40));
        due(0, w.item(0, 39));
        due(0, w.sheet(3, 0, 0));
        due(LONG_BEYOND, w.item(3, 0));
        due(BEYOND, w.sheet(4, 0, 1));
        due(BEYOND, w.sheet(-1, 0, 1));
        due(BEYOND, w.sheet(0, 3, -1));
        due(BEYOND, w.sheet(0, -2, -1));
        due(SIZE, w.sheet(0, 0, -1));
        due(SIZE, w.sheet(0, 0, Integer.MIN_VALUE));
        due(BEYOND, w.sheet(0, 0, 41));
        due(BEYOND, w.sheet(0, 0, Integer.MAX_VALUE));
        due(0, w.item(0, 39));
        due(0, w.sheet(0, -1, 41));
        due(LONG_MISSING, w.item(0, 39));
        dueStatus(w, 7, 0, 0, 0, 0, 1, 2);
    }

    private static void write() {
        WalledFields w = new WalledFields();
        for (int sort = 0; sort < 3; sort++) {
            w.sheet(sort, sort, 3);
            due(1, w.write(sort, 2, 0x1234567890abcdefL));
        }
        due((byte) 0xef, w.item(0, 2));
        due(0x90abcdef, w.item(1, 2));
        due(0x1234567890abcdefL, w.item(2, 2));
        due(0, w.item(2, 1));
        due(BEYOND, w.write(4, 0, 0));
        due(BEYOND, w.write(-1, 0, 0));
        due(MISSING, w.write(3, 99, 0));
        due(BEYOND, w.write(0, 3, 0));
        due(BEYOND, w.write(0, -1, 0));
        dueStatus(w, 4, 0, 0, 0, 0, 1);
    }

    private static void item() {
        WalledFields w = new WalledFields();
        w.sheet(1, 2, 2);
        w.write(1, 1, LONG_OVER);
        due(LONG_OVER, w.item(1, 1));
        due(0, w.item(1, 0));
        due(LONG_BEYOND, w.item(4, 0));
        due(LONG_BEYOND, w.item(-1, 0));
        due(LONG_MISSING, w.item(0, 99));
        due(LONG_BEYOND, w.item(1, 2));
        due(LONG_BEYOND, w.item(1, -1));
        dueStatus(w, 4, 0, 0, 0, 0, 1);
    }

    private static void copy() {
        WalledFields w = new WalledFields();
        w.sheet(0, 1, 5);
        w.sheet(1, 1, 3);
        w.sheet(2, 2, 5);
        for (int i = 0; i < 5; i++) w.write(0, i, 10 + i);
        due(3, w.copy(0, 0, 0, 1, 3));
        long[] shifted = {10, 10, 11, 12, 14};
        for (int i = 0; i < 5; i++) due(shifted[i], w.item(0, i));
        due(4, w.copy(0, 1, 0, 0, 4));
        long[] back = {10, 11, 12, 14, 14};
        for (int i = 0; i < 5; i++) due(back[i], w.item(0, i));
        due(2, w.copy(0, 3, 1, 1, 2));
        due(0, w.item(1, 0));
        due(14, w.item(1, 2));
        due(0, w.copy(0, 5, 1, 3, 0));
        due(BEYOND, w.copy(4, 0, 3, 0, 1));
        due(BEYOND, w.copy(3, 0, -1, 0, 1));
        due(MISSING, w.copy(3, 0, 2, 0, -1));
        due(MISSING, w.copy(2, 0, 3, 0, -1));
        due(KIND, w.copy(0, 9, 2, 9, -1));
        due(BEYOND, w.copy(0, 0, 1, 0, 4));
        due(BEYOND, w.copy(1, 0, 0, 0, 4));
        due(BEYOND, w.copy(0, 6, 1, 0, 0));
        due(BEYOND, w.copy(0, -1, 1, 0, 1));
        due(BEYOND, w.copy(0, 0, 1, -1, 1));
        due(BEYOND, w.copy(0, 0, 1, 0, -1));
        due(BEYOND, w.copy(0, 2, 1, 0, Integer.MAX_VALUE));
        due(BEYOND, w.copy(0, Integer.MAX_VALUE, 1, 0, Integer.MAX_VALUE));
        due(0, w.item(1, 0));
        dueStatus(w, 10, 0, 1, 0, 0, 2);
    }

    private static void hold() {
        WalledFields w = two();
        due(1, w.hold(0, 5, 1));
        due(1, w.hold(9, 8, 5));
        due(1, w.hold(4, 5, 5));
        due(3, w.taken(0, 6));
        due(8005, w.taken(9, 7));
        due(1, w.taken(4, 0));
        due(1, w.hold(0, 10, 0));
        due(10000, w.taken(0, 7));
        due(BEYOND, w.hold(10, 0, 0));
        due(BEYOND, w.hold(-1, 0, 0));
        due(BEYOND, w.hold(0, 100, 0));
        due(BEYOND, w.hold(0, 0, -100));
        due(10000, w.taken(0, 7));
        due(3, w.count(4));
        dueStatus(w, 4);
    }

    private static void taken() {
        WalledFields w = two();
        w.segment(0, -3, -7, -4, -8);
        w.hold(0, 5, 5);
        w.hold(1, 5, 1);
        w.hold(2, -3, -7);
        due(6, w.taken(1, 6));
        due(-3007, w.taken(2, 7));
        String[] kindsOver = {"0", "01", "02", "013", "024", "05"};
        for (int kind = 0; kind < 6; kind++) {
            w.become(1, 10 * kind);
            for (int as = 0; as < 8; as++) due(kindsOver[kind].indexOf('0' + as) >= 0 ? 1 : KIND, w.taken(0, as));
        }
        for (int as = 0; as < 8; as++) {
            due(as == 6 ? 6 : KIND, w.taken(1, as));
            due(as == 7 ? -3007 : KIND, w.taken(2, as));
        }
        w.drop();
        w.drop();
        due(MISSING, w.taken(0, 0));
        due(MISSING, w.taken(0, 6));
        due(6, w.taken(1, 6));
        due(-3007, w.taken(2, 7));
        due(MISSING, w.taken(3, 6));
        due(BEYOND, w.taken(10, 0));
        due(BEYOND, w.taken(-1, 0));
        due(BEYOND, w.taken(3, 8));
        due(BEYOND, w.taken(3, -1));
        w.segment(10, 50, 50, 60, 60);
        due(1, w.taken(0, 1));
        dueStatus(w, 4, 0, 49, 0, 0, 3);
    }

    private static void image() {
        WalledFields w = two();
        w.tide(2);
        w.book(0, 1L << 40);
        w.seed(77);
        due(1, w.image());
        due(2, w.count(0));
        w.become(0, 19);
        w.move(1, 50, 50, 60, 60);
        w.tide(0);
        w.book(1, 0);
        w.seed(5);
        w.prove();
        w.feed(0, 2);
        w.hold(0, 5, 0);
        due(2, w.back());
        due(0, w.of(0, 0));
        due(3, w.of(0, 1));
        due(2, w.of(1, 2));
        due(2, w.count(1));
        due(1L << 40, w.book(0, 0));
        due(77, w.count(2));
        due(7, w.count(3));
        due(2, w.count(5));
        due(1, w.count(4));
        due(6, w.depth(0));
        dueStatus(w);
    }

    private static void back() {
        WalledFields w = new WalledFields();
        due(NONE, w.back());
        w.image();
        w.segment(0, 0, 0, 1, 1);
        due(0, w.back());
        due(0, w.count(0));
        due(1, w.many(2));
        w.segment(0, 0, 0, 2, 2);
        w.image();
        w.drop();
        due(1, w.back());
        w.move(0, 5, 5, 6, 6);
        due(1, w.back());
        due(2, w.of(0, 4));
        due(4, w.many(2));
        due(200, w.at(1, 1));
        dueStatus(w, 0, 0, 0, 1);
    }

    private static void count() {
        WalledFields w = two();
        w.tide(3);
        w.seed(-9);
        w.prove();
        w.hold(3, 0, 0);
        w.hold(4, 5, 0);
        w.feed(0, 4);
        w.book(0, Integer.MAX_VALUE);
        int[] counts = {2, 3, -9, 7, 2, 4, Integer.MAX_VALUE};
        for (int what = 0; what < 7; what++) due(counts[what], w.count(what));
        w.book(0, 1);
        due(OVER, w.count(6));
        w.book(1, -1);
        due(Integer.MIN_VALUE, w.count(6));
        w.book(0, -1);
        due(OVER, w.count(6));
        due(BEYOND, w.count(7));
        due(BEYOND, w.count(-1));
        w.drop();
        w.drop();
        due(1, w.count(4));
        dueStatus(w, 2, 0, 0, 0, 0, 0, 0, 2);
    }

    private static void status() {
        WalledFields w = new WalledFields();
        due(0, w.status(-1));
        due(BEYOND, w.status(8));
        due(BEYOND, w.status(-2));
        due(2, w.status(0));
        due(2, w.status(-1));
        w.image();
        w.drop();
        w.sheet(0, 0, -1);
        w.book(9, 0);
        w.item(0, 0);
        w.back();
        dueStatus(w, 3, 0, 0, 1, 0, 1, 1);
    }
}
