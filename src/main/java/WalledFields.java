/**
 * Fields between walls, as the document ../shared/DOC.md promises them. The words in
 * capitals (SEGMENT, END, STRIP, CELL, FIELD, ..) are those of that document.
 *
 * All rows are made with the object and used again, so that no call makes an object.
 */
public final class WalledFields {
    private static final int LOW = -1000001;
    private static final long LONG_LOW = -1000000000000000001L;
    private static final int MOST_INT = 2147483647;
    private static final int LEAST_INT = -2147483648;
    private static final long MOST_LONG = 9223372036854775807L;
    private static final long LEAST_LONG = -9223372036854775808L;

    private static final int BEYOND = 0;
    private static final int FULL = 1;
    private static final int KIND = 2;
    private static final int NONE = 3;
    private static final int STATE = 4;
    private static final int MISSING = 5;
    private static final int SIZE = 6;
    private static final int OVER = 7;
    private static final int SORTS_OF_FINDINGS = 8;

    private static final int FARTHEST = 99;
    private static final int MOST_TIDE = 3;
    private static final int MOST_WIDTH = 9;
    private static final int KINDS = 6;
    private static final int MOST_SEGMENTS = 6;
    private static final int MOST_ENDS = 2 * MOST_SEGMENTS;
    private static final int MOST_STRIPS = MOST_ENDS + 1;
    // A STRIP has one CELL more than SEGMENTS that go through it. Six SEGMENTS go through
    // 36 STRIPS together at most: if their FIRST ENDS are 0 to 5, their LAST ENDS 6 to 11.
    private static final int MOST_CELLS = MOST_STRIPS + 36;
    // One FIELD is ahead of all; behind an END at which k SEGMENTS begin, k + 1 are new.
    private static final int MOST_FIELDS = 1 + MOST_ENDS + MOST_SEGMENTS;

    private static final int NUMBERS_OF_A_ROW = 4;
    private static final int MOST_BYTES = 120;
    private static final int MOST_FED = 4;
    private static final int SHEETS = 4;
    private static final int MOST_NUMBERS = 40;
    private static final int SPOTS = 10;
    private static final int MOST_COST = 999;
    private static final int MOST_LOOSE = 20;
    private static final int RESTS_OF_A_DRAW = 2 * FARTHEST + 1;

    // What a POINT is in is told as one number: that of a CELL, or, from these on, that of
    // an END, of a SEGMENT.
    private static final int END_FROM = 100;
    private static final int SEGMENT_FROM = 200;

    private static final int AS_CELL = 6;
    private static final int AS_END = 7;

    private final Estate now = new Estate();
    private final Estate kept = new Estate();
    private final Estate trial = new Estate();
    private final Land land = new Land();
    private final Land trialLand = new Land();
    private final Searches searches = new Searches(land);
    private final Ways ways = new Ways();
    private final Blame blamed = new Blame();
    private final Reader reader = new Reader();
    private final Wall draft = new Wall();
    private final Sheet[] sheets = new Sheet[SHEETS];
    private final Spots spots = new Spots();
    private final int[] rows = new int[MOST_FIELDS * NUMBERS_OF_A_ROW];
    private final int[] findings = new int[SORTS_OF_FINDINGS];
    private int rowsTold;
    private boolean isKept;

    public WalledFields() {
        for (int s = 0; s < SHEETS; s++) {
            sheets[s] = new Sheet();
        }
        settle();
    }

    // ---- segments

    public int segment(int km, int x, int y, int u, int v) {
        if (!isKm(km) || !areTwoPoints(x, y, u, v)) {
            return tell(BEYOND);
        }
        if (now.many >= MOST_SEGMENTS) {
            return tell(FULL);
        }
        draft.beOf(km / 10, km % 10);
        draft.lay(x, y, u, v);
        if (!blamed.allows(now, -1, draft, false)) {
            return tell(STATE);
        }
        now.add(draft);
        settle();
        return now.many - 1;
    }

    public int move(int i, int x, int y, int u, int v) {
        if (!isSegment(i) || !areTwoPoints(x, y, u, v)) {
            return tell(BEYOND);
        }
        draft.lay(x, y, u, v);
        if (!blamed.allows(now, i, draft, false)) {
            return tell(STATE);
        }
        now.walls[i].lay(x, y, u, v);
        settle();
        return 1;
    }

    public int become(int i, int km) {
        if (!isSegment(i) || !isKm(km)) {
            return tell(BEYOND);
        }
        int was = now.walls[i].kind;
        now.walls[i].beOf(km / 10, km % 10);
        return was;
    }

    public int drop() {
        if (now.many <= 0) {
            return tell(NONE);
        }
        now.many--;
        settle();
        return now.many;
    }

    public int of(int i, int what) {
        if (!isSegment(i)) {
            return tell(BEYOND);
        }
        Wall wall = now.walls[i];
        switch (what) {
            case 0: return wall.kind;
            case 1: return wall.width;
            case 2: return wall.x;
            case 3: return wall.y;
            case 4: return wall.u;
            case 5: return wall.v;
            case 6: return Wall.tollOf(wall.kind, wall.width, now.tide);
            case 7: return land.fieldsWith(land.cellFloor, i);
            case 8: return land.fieldsWith(land.cellRoof, i);
            default: return tell(BEYOND);
        }
    }

    public int tide(int v) {
        if (!isIn(v, 0, MOST_TIDE)) {
            return tell(BEYOND);
        }
        int was = now.tide;
        now.tide = v;
        return was;
    }

    public int blame(int what) {
        switch (what) {
            case 0: return blamed.how;
            case 1: return blamed.other;
            case 2: return blamed.inText ? 1 : 0;
            default: return tell(BEYOND);
        }
    }

    // ---- ends, fields

    public int many(int what) {
        switch (what) {
            case 0: return land.ends;
            case 1: return land.cells;
            case 2: return land.fields;
            case 3: return land.twosAtSegments();
            default: return tell(BEYOND);
        }
    }

    public int end(int e, int what) {
        if (!isIn(e, 0, land.ends - 1)) {
            return tell(BEYOND);
        }
        switch (what) {
            case 0: return land.endX[e];
            case 1: return land.endY[e];
            case 2: return land.segmentsWith(land.firstEnd, e);
            case 3: return land.segmentsWith(land.lastEnd, e);
            default: return tell(BEYOND);
        }
    }

    public int field(int f, int what) {
        if (!isField(f) || !isIn(what, 0, 4)) {
            return tell(BEYOND);
        }
        if (what < NUMBERS_OF_A_ROW) {
            return land.numberOf(f, what);
        }
        return land.fieldLast[f] - land.fieldFirst[f] + 1;
    }

    public int at(int x, int y) {
        if (!isPoint(x, y)) {
            return tell(BEYOND);
        }
        return whatHolds(x, y);
    }

    public int near(int x, int y, int what) {
        if (!isPoint(x, y) || !isIn(what, 0, 3)) {
            return tell(BEYOND);
        }
        int cell = land.thingAt(now, x, y);
        if (cell >= END_FROM) {
            return tell(STATE);
        }
        switch (what) {
            case 0: return land.cellFloor[cell];
            case 1: return land.cellRoof[cell];
            case 2: return land.cellStrip[cell];
            default: return cell - land.firstCell[land.cellStrip[cell]];
        }
    }

    public int sight(int x, int y, int u, int v) {
        if (!areTwoPoints(x, y, u, v)) {
            return tell(BEYOND);
        }
        draft.lay(x, y, u, v);
        int met = 0;
        for (int i = 0; i < now.many; i++) {
            if (now.walls[i].meets(draft)) {
                met++;
            }
        }
        return met;
    }

    // ---- searches

    public int steps(int x, int y) {
        if (!isPoint(x, y)) {
            return tell(BEYOND);
        }
        int cell = land.thingAt(now, x, y);
        if (cell >= END_FROM) {
            return tell(STATE);
        }
        return stepsOfCell(cell);
    }

    public int depth(int what) {
        if (!isIn(what, 0, 1)) {
            return tell(BEYOND);
        }
        searches.takeOrder(0);
        searches.measure();
        return what == 0 ? searches.depth : searches.sum;
    }

    public int ordered(int order, int what) {
        boolean isPlace = isIn(what, 10, 9 + now.many);
        if (!searches.isOrder(order) || !isPlace && !isIn(what, 0, 1)) {
            return tell(BEYOND);
        }
        searches.takeOrder(order);
        if (isPlace) {
            return searches.order[what - 10];
        }
        searches.measure();
        return what == 0 ? searches.depth : searches.sum;
    }

    public int best() {
        return searches.bestOrder();
    }

    public int renumber(int order) {
        if (!searches.isOrder(order)) {
            return tell(BEYOND);
        }
        searches.takeOrder(order);
        trial.takeAll(now);
        for (int i = 0; i < now.many; i++) {
            now.walls[i].take(trial.walls[searches.order[i]]);
        }
        settle();
        return 1;
    }

    // ---- ways

    public int cost(int f, int g) {
        if (!isField(f) || !isField(g)) {
            return tell(BEYOND);
        }
        ways.takeTolls(now);
        ways.spread(land, f);
        return ways.costs[g];
    }

    public int next(int f, int g) {
        if (!isField(f) || !isField(g)) {
            return tell(BEYOND);
        }
        if (f == g) {
            return tell(NONE);
        }
        ways.takeTolls(now);
        ways.spread(land, g);
        return ways.firstBy(land, f);
    }

    public int within(int f, int c) {
        if (!isField(f) || !isIn(c, 0, MOST_COST)) {
            return tell(BEYOND);
        }
        ways.takeTolls(now);
        ways.spread(land, f);
        int reached = 0;
        for (int g = 0; g < land.fields; g++) {
            if (ways.costs[g] <= c) {
                reached++;
            }
        }
        return reached;
    }

    public int lose(int x, int y, int u, int v) {
        if (!isPoint(x, y) || !isPoint(u, v)) {
            return tell(BEYOND);
        }
        if (!isHeld(x, y) || !isHeld(u, v)) {
            return tell(STATE);
        }
        if (now.many <= 0) {
            return tell(NONE);
        }
        int least = 0;
        int leastCost = Ways.FAR;
        for (int i = 0; i < now.many; i++) {
            trial.takeWithout(now, i);
            trialLand.survey(trial);
            ways.takeTolls(trial);
            int f = trialLand.fieldAt(trial, x, y);
            int g = trialLand.fieldAt(trial, u, v);
            int cost = ways.costOf(trialLand, f, g);
            if (cost < leastCost) {
                leastCost = cost;
                least = i;
            }
        }
        return least;
    }

    public int kindFor(int i, int x, int y, int u, int v) {
        if (!isSegment(i) || !isPoint(x, y) || !isPoint(u, v)) {
            return tell(BEYOND);
        }
        if (!isHeld(x, y) || !isHeld(u, v)) {
            return tell(STATE);
        }
        int f = land.fieldAt(now, x, y);
        int g = land.fieldAt(now, u, v);
        ways.takeTolls(now);
        int least = 0;
        int leastCost = Ways.FAR;
        for (int kind = 0; kind < KINDS; kind++) {
            ways.tolls[i] = Wall.tollOf(kind, now.walls[i].width, now.tide);
            int cost = ways.costOf(land, f, g);
            if (cost < leastCost) {
                leastCost = cost;
                least = kind;
            }
        }
        return least;
    }

    // ---- rows of points, draws

    public int asks(int s, int t) {
        if (!isSheet(s) || !isSheet(t)) {
            return tell(BEYOND);
        }
        Sheet points = sheets[s];
        Sheet answers = sheets[t];
        if (points.isMissing() || answers.isMissing()) {
            return tell(MISSING);
        }
        int came = 0;
        // In one and the same SHEET an answer comes only where a POINT was read already.
        while (came < answers.size && 2 * came + 1 < points.size) {
            long x = points.numbers[2 * came];
            long y = points.numbers[2 * came + 1];
            if (!isFew(x) || !isFew(y)) {
                break;
            }
            answers.put(came, whatHolds((int) x, (int) y));
            came++;
        }
        return came;
    }

    public int loose(int n) {
        if (!isIn(n, 1, MOST_LOOSE)) {
            return tell(BEYOND);
        }
        int z = now.z;
        long ledger = now.ledger;
        int held = 0;
        for (int k = 0; k < n; k++) {
            z = drawn(z);
            int x = coordinateOf(z);
            z = drawn(z);
            int y = coordinateOf(z);
            int cell = land.thingAt(now, x, y);
            int more = cell >= END_FROM ? 1 : stepsOfCell(cell);
            if (ledger > MOST_LONG - more) {
                return tell(OVER);
            }
            ledger += more;
            if (cell < END_FROM) {
                held++;
            }
        }
        now.z = z;
        now.ledger = ledger;
        return held;
    }

    public long book(int what, long v) {
        if (!isIn(what, 0, 1)) {
            return tellLong(BEYOND);
        }
        boolean isOver = what == 0 ? sumIsOver(now.ledger, v) : productIsOver(now.ledger, v);
        if (isOver) {
            return tellLong(OVER);
        }
        now.ledger = what == 0 ? now.ledger + v : now.ledger * v;
        return now.ledger;
    }

    public int seed(int v) {
        int was = now.z;
        now.z = v;
        return was;
    }

    // ---- rows of fields

    public int prove() {
        for (int f = 0; f < land.fields; f++) {
            for (int what = 0; what < NUMBERS_OF_A_ROW; what++) {
                rows[f * NUMBERS_OF_A_ROW + what] = land.numberOf(f, what);
            }
        }
        rowsTold = land.fields;
        return rowsTold;
    }

    public int row(int k, int what) {
        if (!isNumberOfRow(k, what)) {
            return tell(BEYOND);
        }
        return rows[k * NUMBERS_OF_A_ROW + what];
    }

    public int alter(int k, int what, int v) {
        if (!isNumberOfRow(k, what)) {
            return tell(BEYOND);
        }
        int place = k * NUMBERS_OF_A_ROW + what;
        int was = rows[place];
        rows[place] = v;
        return was;
    }

    public int judge() {
        int both = Math.min(rowsTold, land.fields);
        for (int k = 0; k < both; k++) {
            if (!isRowOfField(k)) {
                return 1 + k;
            }
        }
        return rowsTold == land.fields ? 0 : 1 + both;
    }

    // ---- texts

    public int feed(int bytes, int n) {
        if (!isIn(n, 1, MOST_FED)) {
            return tell(BEYOND);
        }
        if (reader.size > MOST_BYTES - n) {
            return tell(FULL);
        }
        for (int k = n - 1; k >= 0; k--) {
            reader.tape[reader.size] = (byte) (bytes >> (8 * k));
            reader.size++;
        }
        return reader.size;
    }

    public int wipe() {
        int had = reader.size;
        reader.size = 0;
        return had;
    }

    public int text() {
        int hadSegments = now.many;
        int hadTide = now.tide;
        int items = reader.readItems(now, blamed);
        reader.size = 0;
        if (items < 0) {
            now.many = hadSegments;
            now.tide = hadTide;
            return items;
        }
        settle();
        return items;
    }

    // ---- sheets, spots

    public int sheet(int s, int sort, int n) {
        if (!isSheet(s) || !isIn(sort, -1, 2)) {
            return tell(BEYOND);
        }
        if (sort == -1) {
            sheets[s].begin(sort, 0);
            return 0;
        }
        if (n < 0) {
            return tell(SIZE);
        }
        if (n > MOST_NUMBERS) {
            return tell(BEYOND);
        }
        sheets[s].begin(sort, n);
        return n;
    }

    public int write(int s, int i, long v) {
        if (!isSheet(s)) {
            return tell(BEYOND);
        }
        if (sheets[s].isMissing()) {
            return tell(MISSING);
        }
        if (!sheets[s].has(i, 1)) {
            return tell(BEYOND);
        }
        sheets[s].put(i, v);
        return 1;
    }

    public long item(int s, int i) {
        if (!isSheet(s)) {
            return tellLong(BEYOND);
        }
        if (sheets[s].isMissing()) {
            return tellLong(MISSING);
        }
        if (!sheets[s].has(i, 1)) {
            return tellLong(BEYOND);
        }
        return sheets[s].numbers[i];
    }

    public int copy(int s, int i, int t, int j, int n) {
        if (!isSheet(s) || !isSheet(t)) {
            return tell(BEYOND);
        }
        Sheet from = sheets[s];
        Sheet to = sheets[t];
        if (from.isMissing() || to.isMissing()) {
            return tell(MISSING);
        }
        if (from.sort != to.sort) {
            return tell(KIND);
        }
        if (!from.has(i, n) || !to.has(j, n)) {
            return tell(BEYOND);
        }
        System.arraycopy(from.numbers, i, to.numbers, j, n);
        return n;
    }

    public int hold(int spot, int x, int y) {
        if (!isIn(spot, 0, SPOTS - 1) || !isPoint(x, y)) {
            return tell(BEYOND);
        }
        int thing = land.thingAt(now, x, y);
        if (thing >= SEGMENT_FROM) {
            spots.fill(spot, Spots.SEGMENT, thing - SEGMENT_FROM);
        } else if (thing >= END_FROM) {
            spots.fill(spot, Spots.END, 1000 * x + y);
        } else {
            spots.fill(spot, Spots.CELL, land.cellField[thing]);
        }
        return 1;
    }

    public int taken(int spot, int as) {
        if (!isIn(spot, 0, SPOTS - 1) || !isIn(as, 0, AS_END)) {
            return tell(BEYOND);
        }
        if (!spots.isFull(spot, now.many)) {
            return tell(MISSING);
        }
        if (!isOfKind(spot, as)) {
            return tell(KIND);
        }
        return spots.values[spot];
    }

    // ---- images

    public int image() {
        kept.takeAll(now);
        isKept = true;
        return 1;
    }

    public int back() {
        if (!isKept) {
            return tell(NONE);
        }
        now.takeAll(kept);
        settle();
        return now.many;
    }

    public int count(int what) {
        switch (what) {
            case 0: return now.many;
            case 1: return now.tide;
            case 2: return now.z;
            case 3: return rowsTold;
            case 4: return spots.manyFull(now.many);
            case 5: return reader.size;
            case 6: return ledgerAsInt();
            default: return tell(BEYOND);
        }
    }

    public int status(int which) {
        if (isIn(which, 0, SORTS_OF_FINDINGS - 1)) {
            return findings[which];
        }
        if (which != -1) {
            return tell(BEYOND);
        }
        int all = 0;
        for (int k = 0; k < SORTS_OF_FINDINGS; k++) {
            all += findings[k];
        }
        return all;
    }

    // ---- what the calls have in common

    private int tell(int finding) {
        findings[finding]++;
        return LOW - finding;
    }

    private long tellLong(int finding) {
        findings[finding]++;
        return LONG_LOW - finding;
    }

    /** All that follows from where the SEGMENTS lie must be found anew when they change. */
    private void settle() {
        land.survey(now);
        searches.study();
    }

    private static boolean isIn(int value, int least, int most) {
        return least <= value && value <= most;
    }

    private static boolean isFew(long value) {
        return -FARTHEST <= value && value <= FARTHEST;
    }

    private static boolean isPoint(int x, int y) {
        return isFew(x) && isFew(y);
    }

    private static boolean areTwoPoints(int x, int y, int u, int v) {
        return isPoint(x, y) && isPoint(u, v) && (x != u || y != v);
    }

    private static boolean isKm(int km) {
        return isIn(km, 0, 10 * (KINDS - 1) + MOST_WIDTH);
    }

    private boolean isSegment(int i) {
        return isIn(i, 0, now.many - 1);
    }

    private boolean isField(int f) {
        return isIn(f, 0, land.fields - 1);
    }

    private static boolean isSheet(int s) {
        return isIn(s, 0, SHEETS - 1);
    }

    private boolean isNumberOfRow(int k, int what) {
        return isIn(k, 0, rowsTold - 1) && isIn(what, 0, NUMBERS_OF_A_ROW - 1);
    }

    private boolean isHeld(int x, int y) {
        return land.thingAt(now, x, y) < END_FROM;
    }

    private int whatHolds(int x, int y) {
        int thing = land.thingAt(now, x, y);
        return thing < END_FROM ? land.cellField[thing] : thing;
    }

    private int stepsOfCell(int cell) {
        searches.takeOrder(0);
        return searches.stepsOf(cell);
    }

    private static int drawn(int z) {
        return z * 1103515245 + 12345;
    }

    private static int coordinateOf(int z) {
        return (z >>> 8) % RESTS_OF_A_DRAW - FARTHEST;
    }

    private static boolean sumIsOver(long a, long b) {
        return b > 0 ? a > MOST_LONG - b : a < LEAST_LONG - b;
    }

    private static boolean productIsOver(long a, long b) {
        if (a == 0 || b == 0) {
            return false;
        }
        // The test by division is blind for these: -1 times the least long is that again.
        if (a == -1) {
            return b == LEAST_LONG;
        }
        if (b == -1) {
            return a == LEAST_LONG;
        }
        return a * b / b != a;
    }

    private boolean isRowOfField(int k) {
        for (int what = 0; what < NUMBERS_OF_A_ROW; what++) {
            if (rows[k * NUMBERS_OF_A_ROW + what] != land.numberOf(k, what)) {
                return false;
            }
        }
        return true;
    }

    private boolean isOfKind(int spot, int as) {
        int sort = spots.sorts[spot];
        if (as == AS_CELL) {
            return sort == Spots.CELL;
        }
        if (as == AS_END) {
            return sort == Spots.END;
        }
        return sort == Spots.SEGMENT && Wall.isUnder(now.walls[spots.values[spot]].kind, as);
    }

    private int ledgerAsInt() {
        if (now.ledger < LEAST_INT || now.ledger > MOST_INT) {
            return tell(OVER);
        }
        return (int) now.ledger;
    }

    /** A SEGMENT: x, y is its FIRST END, u, v its LAST END. */
    private static final class Wall {
        static final int SEGMENT = 0;
        static final int FENCE = 1;
        static final int STREAM = 2;
        static final int HEDGE = 3;
        static final int DITCH = 4;
        static final int ROAD = 5;
        private static final int[] KIND_OVER = {-1, SEGMENT, SEGMENT, FENCE, STREAM, SEGMENT};

        int kind;
        int width;
        int x;
        int y;
        int u;
        int v;

        static boolean isAhead(int x, int y, int u, int v) {
            return x < u || x == u && y < v;
        }

        static boolean isUnder(int kind, int as) {
            int k = kind;
            for (int steps = 0; steps < KINDS && k >= 0 && k < KINDS; steps++) {
                if (k == as) {
                    return true;
                }
                k = KIND_OVER[k];
            }
            return false;
        }

        static int tollOf(int kind, int width, int tide) {
            switch (kind) {
                case FENCE: return width + 2;
                case STREAM: return width * (tide + 1);
                case HEDGE: return 2 * (width + 2);
                case DITCH: return Math.max(0, width * (tide + 1) - 3);
                case ROAD: return width / 2;
                default: return width;
            }
        }

        void beOf(int newKind, int newWidth) {
            kind = newKind;
            width = newWidth;
        }

        void lay(int fromX, int fromY, int toX, int toY) {
            boolean isToldInOrder = isAhead(fromX, fromY, toX, toY);
            x = isToldInOrder ? fromX : toX;
            y = isToldInOrder ? fromY : toY;
            u = isToldInOrder ? toX : fromX;
            v = isToldInOrder ? toY : fromY;
        }

        void take(Wall other) {
            kind = other.kind;
            width = other.width;
            x = other.x;
            y = other.y;
            u = other.u;
            v = other.v;
        }

        int turnTo(int px, int py) {
            return (u - x) * (py - y) - (v - y) * (px - x);
        }

        boolean isEnd(int px, int py) {
            return px == x && py == y || px == u && py == v;
        }

        boolean carries(int px, int py) {
            // POINTS of one line follow one another by ORDER.
            return turnTo(px, py) == 0 && !isAhead(px, py, x, y) && !isAhead(u, v, px, py);
        }

        boolean carriesInside(int px, int py) {
            return turnTo(px, py) == 0 && isAhead(x, y, px, py) && isAhead(px, py, u, v);
        }

        boolean touches(Wall other) {
            return carries(other.x, other.y) || carries(other.u, other.v)
                || other.carries(x, y) || other.carries(u, v);
        }

        boolean crosses(Wall other) {
            return areOpposite(turnTo(other.x, other.y), turnTo(other.u, other.v))
                && areOpposite(other.turnTo(x, y), other.turnTo(u, v));
        }

        boolean meets(Wall other) {
            return touches(other) || crosses(other);
        }

        boolean isApartFrom(Wall other) {
            if (crosses(other) || isEnd(other.x, other.y) && isEnd(other.u, other.v)) {
                return false;
            }
            return !carriesInside(other.x, other.y) && !carriesInside(other.u, other.v)
                && !other.carriesInside(x, y) && !other.carriesInside(u, v);
        }

        /** Whether it lies over another one in a STRIP that both go through. */
        boolean isOver(Wall other) {
            if (x == other.x && y == other.y) {
                return isAhead(u, v, other.u, other.v)
                    ? other.turnTo(u, v) > 0 : turnTo(other.u, other.v) < 0;
            }
            return isAhead(other.x, other.y, x, y)
                ? other.turnTo(x, y) > 0 : turnTo(other.x, other.y) < 0;
        }

        private static boolean areOpposite(int a, int b) {
            return a < 0 && b > 0 || a > 0 && b < 0;
        }
    }

    /** What image() keeps. */
    private static final class Estate {
        final Wall[] walls = new Wall[MOST_SEGMENTS];
        int many;
        int tide;
        long ledger;
        int z = 1;

        Estate() {
            for (int i = 0; i < MOST_SEGMENTS; i++) {
                walls[i] = new Wall();
            }
        }

        void add(Wall wall) {
            if (many < MOST_SEGMENTS) {
                walls[many].take(wall);
                many++;
            }
        }

        void takeAll(Estate other) {
            takeWithout(other, -1);
        }

        void takeWithout(Estate other, int gone) {
            many = 0;
            for (int i = 0; i < other.many; i++) {
                if (i != gone) {
                    add(other.walls[i]);
                }
            }
            tide = other.tide;
            ledger = other.ledger;
            z = other.z;
        }
    }

    /** THE BLAME. */
    private static final class Blame {
        private static final int TOUCHES = 1;
        private static final int CROSSES = 2;

        int how;
        int other = -1;
        boolean inText;

        /** Whether a wall would be APART from all but one; else it is told who is to blame. */
        boolean allows(Estate estate, int except, Wall wall, boolean isInText) {
            for (int i = 0; i < estate.many; i++) {
                if (i != except && !estate.walls[i].isApartFrom(wall)) {
                    how = estate.walls[i].touches(wall) ? TOUCHES : CROSSES;
                    other = i;
                    inText = isInText;
                    return false;
                }
            }
            return true;
        }
    }

    /** ENDS, STRIPS, CELLS and FIELDS of an Estate's SEGMENTS. */
    private static final class Land {
        private static final int SHUT = 0;
        private static final int OPEN = 1;
        private static final int BY_SEGMENT = 2;

        int segments;
        int ends;
        final int[] endX = new int[MOST_ENDS];
        final int[] endY = new int[MOST_ENDS];
        final int[] firstEnd = new int[MOST_SEGMENTS];
        final int[] lastEnd = new int[MOST_SEGMENTS];
        /** Of each STRIP its SEGMENTS, the lowest first. */
        final int[] stack = new int[MOST_STRIPS * MOST_SEGMENTS];
        final int[] height = new int[MOST_STRIPS];
        int cells;
        final int[] firstCell = new int[MOST_STRIPS];
        final int[] cellStrip = new int[MOST_CELLS];
        final int[] cellFloor = new int[MOST_CELLS];
        final int[] cellRoof = new int[MOST_CELLS];
        final int[] cellField = new int[MOST_CELLS];
        int fields;
        /** Of each FIELD one of its CELLS, for FLOOR and ROOF. */
        final int[] fieldCell = new int[MOST_FIELDS];
        final int[] fieldFirst = new int[MOST_FIELDS];
        final int[] fieldLast = new int[MOST_FIELDS];
        /** Of each two FIELDS how one comes from one to the other at once. */
        final int[] gates = new int[MOST_FIELDS * MOST_FIELDS];

        void survey(Estate estate) {
            segments = estate.many;
            findEnds(estate);
            cells = 0;
            for (int strip = 0; strip <= ends; strip++) {
                stackSegments(estate, strip);
                layCells(strip);
            }
            joinFields();
            openGates();
        }

        private void findEnds(Estate estate) {
            ends = 0;
            for (int i = 0; i < segments; i++) {
                addEnd(estate.walls[i].x, estate.walls[i].y);
                addEnd(estate.walls[i].u, estate.walls[i].v);
            }
            for (int i = 0; i < segments; i++) {
                firstEnd[i] = endsAhead(estate.walls[i].x, estate.walls[i].y);
                lastEnd[i] = endsAhead(estate.walls[i].u, estate.walls[i].v);
            }
        }

        private int endsAhead(int x, int y) {
            int ahead = 0;
            while (ahead < ends && Wall.isAhead(endX[ahead], endY[ahead], x, y)) {
                ahead++;
            }
            return ahead;
        }

        private boolean isEndAt(int e, int x, int y) {
            return e < ends && endX[e] == x && endY[e] == y;
        }

        private void addEnd(int x, int y) {
            int place = endsAhead(x, y);
            if (isEndAt(place, x, y) || ends >= MOST_ENDS) {
                return;
            }
            for (int e = ends; e > place; e--) {
                endX[e] = endX[e - 1];
                endY[e] = endY[e - 1];
            }
            endX[place] = x;
            endY[place] = y;
            ends++;
        }

        private boolean goesThrough(int i, int strip) {
            return firstEnd[i] < strip && strip <= lastEnd[i];
        }

        private void stackSegments(Estate estate, int strip) {
            int base = strip * MOST_SEGMENTS;
            int high = 0;
            for (int i = 0; i < segments; i++) {
                if (!goesThrough(i, strip)) {
                    continue;
                }
                int place = base + high;
                while (place > base && estate.walls[stack[place - 1]].isOver(estate.walls[i])) {
                    stack[place] = stack[place - 1];
                    place--;
                }
                stack[place] = i;
                high++;
            }
            height[strip] = high;
        }

        private void layCells(int strip) {
            int base = strip * MOST_SEGMENTS;
            int high = height[strip];
            firstCell[strip] = cells;
            for (int c = 0; c <= high && cells < MOST_CELLS; c++) {
                cellStrip[cells] = strip;
                cellFloor[cells] = c == 0 ? -1 : stack[base + c - 1];
                cellRoof[cells] = c == high ? -1 : stack[base + c];
                cells++;
            }
        }

        private void joinFields() {
            fields = 0;
            for (int cell = 0; cell < cells; cell++) {
                int f = fieldAhead(cell);
                if (f < 0) {
                    f = newField(cell);
                }
                cellField[cell] = f;
                fieldLast[f] = cellStrip[cell];
            }
        }

        private int newField(int cell) {
            int f = Math.min(fields, MOST_FIELDS - 1);
            fieldCell[f] = cell;
            fieldFirst[f] = cellStrip[cell];
            fields = f + 1;
            return f;
        }

        /** The FIELD that goes on into a CELL from the STRIP ahead of it, or -1. */
        private int fieldAhead(int cell) {
            int strip = cellStrip[cell];
            if (strip == 0) {
                return -1;
            }
            for (int other = firstCell[strip - 1]; other < firstCell[strip]; other++) {
                if (cellFloor[other] == cellFloor[cell] && cellRoof[other] == cellRoof[cell]) {
                    return cellField[other];
                }
            }
            return -1;
        }

        private void openGates() {
            for (int f = 0; f < fields; f++) {
                for (int g = 0; g < fields; g++) {
                    gates[f * MOST_FIELDS + g] = SHUT;
                }
            }
            for (int cell = 0; cell < cells; cell++) {
                if (cellRoof[cell] >= 0) {
                    openGate(cell, cell + 1, BY_SEGMENT + cellRoof[cell]);
                }
                openGatesBehind(cell);
            }
        }

        private void openGatesBehind(int cell) {
            int strip = cellStrip[cell] + 1;
            if (strip > ends) {
                return;
            }
            for (int c = 0; c <= height[strip]; c++) {
                int other = firstCell[strip] + c;
                if (cellFloor[other] == cellFloor[cell] || cellRoof[other] == cellRoof[cell]) {
                    openGate(cell, other, OPEN);
                }
            }
        }

        // Two FIELDS never have gates of two sorts: one that is over a SEGMENT has neither the
        // FLOOR nor the ROOF of the one under it.
        private void openGate(int cell, int other, int gate) {
            int f = cellField[cell];
            int g = cellField[other];
            gates[f * MOST_FIELDS + g] = gate;
            gates[g * MOST_FIELDS + f] = gate;
        }

        /** The TOLL from one FIELD to another one at once, or -1: there is no way. */
        int tollBetween(int f, int g, int[] tolls) {
            int gate = gates[f * MOST_FIELDS + g];
            if (gate >= BY_SEGMENT) {
                return tolls[gate - BY_SEGMENT];
            }
            return gate == OPEN ? 0 : -1;
        }

        int twosAtSegments() {
            int twos = 0;
            for (int f = 0; f < fields; f++) {
                for (int g = 0; g < f; g++) {
                    if (gates[f * MOST_FIELDS + g] >= BY_SEGMENT) {
                        twos++;
                    }
                }
            }
            return twos;
        }

        int segmentsWith(int[] endsOfSegments, int e) {
            int with = 0;
            for (int i = 0; i < segments; i++) {
                if (endsOfSegments[i] == e) {
                    with++;
                }
            }
            return with;
        }

        /** How many FIELDS have a SEGMENT as FLOOR, or as ROOF, by that row of the CELLS. */
        int fieldsWith(int[] sidesOfCells, int i) {
            int with = 0;
            for (int f = 0; f < fields; f++) {
                if (sidesOfCells[fieldCell[f]] == i) {
                    with++;
                }
            }
            return with;
        }

        /** FLOOR (0), ROOF (1), BEGIN (2), CLOSE (3) of a FIELD. */
        int numberOf(int f, int what) {
            switch (what) {
                case 0: return cellFloor[fieldCell[f]];
                case 1: return cellRoof[fieldCell[f]];
                case 2: return fieldFirst[f] - 1;
                default: return fieldLast[f] < ends ? fieldLast[f] : -1;
            }
        }

        /** What a POINT is in: a CELL, or an END (END_FROM on), or a SEGMENT (SEGMENT_FROM on). */
        int thingAt(Estate estate, int x, int y) {
            int strip = endsAhead(x, y);
            if (isEndAt(strip, x, y)) {
                return END_FROM + strip;
            }
            int cell = firstCell[strip];
            for (int k = 0; k < height[strip]; k++) {
                int i = stack[strip * MOST_SEGMENTS + k];
                int turn = estate.walls[i].turnTo(x, y);
                if (turn == 0) {
                    return SEGMENT_FROM + i;
                }
                if (turn > 0) {
                    cell = firstCell[strip] + k + 1;
                }
            }
            return cell;
        }

        int fieldAt(Estate estate, int x, int y) {
            int cell = thingAt(estate, x, y);
            return cell < END_FROM ? cellField[cell] : 0;
        }
    }

    /** SEARCHES by an order of SEGMENTS. */
    private static final class Searches {
        private static final int[] ORDERS = {1, 1, 2, 6, 24, 120, 720};
        private static final int SETS = 1 << MOST_SEGMENTS;
        private static final int UNKNOWN = -1;

        private final Land land;
        /** The ORDER taken latest: its SEGMENTS, the first one first. */
        final int[] order = new int[MOST_SEGMENTS];
        int depth;
        int sum;

        // Sets of SEGMENTS have a bit for each. Of each SEGMENT: which lie over it, which under it
        // in any STRIP; of each END: which SEGMENTS begin there, which ones close.
        private final int[] over = new int[MOST_SEGMENTS];
        private final int[] under = new int[MOST_SEGMENTS];
        private final int[] begins = new int[MOST_ENDS];
        private final int[] closes = new int[MOST_ENDS];

        // The FIELD that findGap() found: its first and last STRIP, and which SEGMENTS lie, or
        // would lie, over its FLOOR and under its ROOF.
        private int gapFirst;
        private int gapLast;
        private int gapInside;

        private int best = UNKNOWN;
        private int bestDepth;
        private int bestSum;
        /** Of each set of SEGMENTS and CELL: two bits of STEPS for each SEGMENT that comes next. */
        private final int[] known = new int[SETS * MOST_CELLS];
        private final int[] tried = new int[MOST_SEGMENTS];
        /** How many SEGMENTS of those tried have their STEPS in totals. */
        private int triedWell;
        /** Of each CELL its STEPS by the first 0, 1, .. SEGMENTS tried. */
        private final int[] totals = new int[(MOST_SEGMENTS + 1) * MOST_CELLS];

        Searches(Land land) {
            this.land = land;
        }

        /** To be called when the land has changed. */
        void study() {
            best = UNKNOWN;
            for (int e = 0; e < land.ends; e++) {
                begins[e] = 0;
                closes[e] = 0;
            }
            for (int i = 0; i < land.segments; i++) {
                over[i] = 0;
                under[i] = 0;
                begins[land.firstEnd[i]] |= 1 << i;
                closes[land.lastEnd[i]] |= 1 << i;
            }
            for (int strip = 0; strip <= land.ends; strip++) {
                studyStrip(strip * MOST_SEGMENTS, land.height[strip]);
            }
        }

        private void studyStrip(int base, int high) {
            for (int k = 1; k < high; k++) {
                int upper = land.stack[base + k];
                for (int l = 0; l < k; l++) {
                    int lower = land.stack[base + l];
                    over[lower] |= 1 << upper;
                    under[upper] |= 1 << lower;
                }
            }
        }

        boolean isOrder(int number) {
            return number >= 0 && number < ORDERS[land.segments];
        }

        void takeOrder(int number) {
            int segments = land.segments;
            int left = (1 << segments) - 1;
            for (int level = 0; level < segments; level++) {
                int rank = number / ORDERS[segments - 1 - level] % (segments - level);
                int i = memberOf(left, rank);
                order[level] = i;
                left &= ~(1 << i);
            }
        }

        /** The SEGMENT of a set that has so many lesser ones in it. */
        private int memberOf(int set, int rank) {
            int lesser = 0;
            for (int i = 0; i < land.segments; i++) {
                if ((set >> i & 1) == 1) {
                    if (lesser == rank) {
                        return i;
                    }
                    lesser++;
                }
            }
            return 0;
        }

        /** STEPS of a CELL by the ORDER taken latest. */
        int stepsOf(int cell) {
            int steps = 0;
            int ahead = 0;
            for (int level = 0; level < land.segments; level++) {
                findGap(ahead, cell);
                steps += stepsAt(order[level], land.cellStrip[cell]);
                ahead |= 1 << order[level];
            }
            return steps;
        }

        /** DEPTH and SUM by the ORDER taken latest. */
        void measure() {
            depth = 0;
            sum = 0;
            for (int cell = 0; cell < land.cells; cell++) {
                int steps = stepsOf(cell);
                depth = Math.max(depth, steps);
                sum += steps;
            }
        }

        /** Finds the FIELD that a CELL lies in if there are only the SEGMENTS of a set. */
        private void findGap(int set, int cell) {
            int strip = land.cellStrip[cell];
            int base = strip * MOST_SEGMENTS;
            int c = cell - land.firstCell[strip];
            int floor = -1;
            for (int k = c - 1; k >= 0 && floor < 0; k--) {
                int i = land.stack[base + k];
                floor = (set >> i & 1) == 1 ? i : -1;
            }
            int roof = -1;
            for (int k = c; k < land.height[strip] && roof < 0; k++) {
                int i = land.stack[base + k];
                roof = (set >> i & 1) == 1 ? i : -1;
            }
            gapInside = SETS - 1;
            int least = 0;
            int most = land.ends;
            if (floor >= 0) {
                gapInside &= over[floor];
                least = land.firstEnd[floor] + 1;
                most = land.lastEnd[floor];
            }
            if (roof >= 0) {
                gapInside &= under[roof];
                least = Math.max(least, land.firstEnd[roof] + 1);
                most = Math.min(most, land.lastEnd[roof]);
            }
            // As far as FLOOR and ROOF go, the gap goes on up to an END of one of the set inside it.
            int inner = gapInside & set;
            gapFirst = strip;
            while (gapFirst > least && (closes[gapFirst - 1] & inner) == 0) {
                gapFirst--;
            }
            gapLast = strip;
            while (gapLast < most && (begins[gapLast] & inner) == 0) {
                gapLast++;
            }
        }

        /** STEPS that a SEGMENT adds for a CELL of a STRIP in the gap that was found latest. */
        private int stepsAt(int i, int strip) {
            int first = land.firstEnd[i];
            int last = land.lastEnd[i];
            boolean isBeside = last < gapFirst || first >= gapLast;
            if (isBeside || (gapInside >> i & 1) == 0) {
                return 0;
            }
            int steps = 0;
            if (first >= gapFirst) {
                steps++;
                if (strip <= first) {
                    return steps;
                }
            }
            if (last < gapLast) {
                steps++;
                if (strip > last) {
                    return steps;
                }
            }
            return steps + 1;
        }

        int bestOrder() {
            if (best != UNKNOWN) {
                return best;
            }
            best = 0;
            bestDepth = MOST_INT;
            bestSum = MOST_INT;
            triedWell = 0;
            learnSteps();
            int orders = ORDERS[land.segments];
            int number = 0;
            while (number < orders) {
                number += Math.max(1, tryOrder(number));
            }
            return best;
        }

        /** What a SEGMENT adds depends on the set ahead of it alone, not on that set's order. */
        private void learnSteps() {
            int sets = 1 << land.segments;
            for (int set = 0; set < sets; set++) {
                for (int cell = 0; cell < land.cells; cell++) {
                    findGap(set, cell);
                    int packed = 0;
                    for (int i = 0; i < land.segments; i++) {
                        if ((set >> i & 1) == 0) {
                            packed |= stepsAt(i, land.cellStrip[cell]) << 2 * i;
                        }
                    }
                    known[set * MOST_CELLS + cell] = packed;
                }
            }
        }

        /** How many ORDERS are dealt with by trying one: all that begin as it does, if that is too deep. */
        private int tryOrder(int number) {
            int segments = land.segments;
            takeOrder(number);
            int level = levelsTriedAlready();
            int deepest = 0;
            while (level < segments) {
                tried[level] = order[level];
                deepest = addLevel(level);
                level++;
                triedWell = level;
                if (deepest > bestDepth) {
                    int alike = ORDERS[segments - level];
                    return alike - number % alike;
                }
            }
            int together = sumOfLevel(segments);
            if (deepest < bestDepth || together < bestSum) {
                best = number;
                bestDepth = deepest;
                bestSum = together;
            }
            return 1;
        }

        private int levelsTriedAlready() {
            int level = 0;
            while (level < triedWell && tried[level] == order[level]) {
                level++;
            }
            return level;
        }

        /** Adds STEPS of the SEGMENT at a level of the ORDER: the greatest STEPS then. */
        private int addLevel(int level) {
            int ahead = 0;
            for (int k = 0; k < level; k++) {
                ahead |= 1 << order[k];
            }
            int shift = 2 * order[level];
            int deepest = 0;
            for (int cell = 0; cell < land.cells; cell++) {
                int more = known[ahead * MOST_CELLS + cell] >> shift & 3;
                int total = totals[level * MOST_CELLS + cell] + more;
                totals[(level + 1) * MOST_CELLS + cell] = total;
                if (total > deepest) {
                    deepest = total;
                }
            }
            return deepest;
        }

        private int sumOfLevel(int level) {
            int together = 0;
            for (int cell = 0; cell < land.cells; cell++) {
                together += totals[level * MOST_CELLS + cell];
            }
            return together;
        }
    }

    /** COSTS from one FIELD to each. */
    private static final class Ways {
        /** More than any WAY costs that goes over each SEGMENT once. */
        static final int FAR = 1000000;

        final int[] tolls = new int[MOST_SEGMENTS];
        final int[] costs = new int[MOST_FIELDS];
        private final boolean[] isSure = new boolean[MOST_FIELDS];

        void takeTolls(Estate estate) {
            for (int i = 0; i < estate.many; i++) {
                Wall wall = estate.walls[i];
                tolls[i] = Wall.tollOf(wall.kind, wall.width, estate.tide);
            }
        }

        int costOf(Land land, int f, int g) {
            spread(land, f);
            return costs[g];
        }

        void spread(Land land, int from) {
            for (int f = 0; f < land.fields; f++) {
                costs[f] = FAR;
                isSure[f] = false;
            }
            costs[from] = 0;
            for (int round = 0; round < land.fields; round++) {
                int f = nearestUnsure(land);
                isSure[f] = true;
                goOnFrom(land, f);
            }
        }

        private int nearestUnsure(Land land) {
            int nearest = 0;
            int least = MOST_INT;
            for (int f = 0; f < land.fields; f++) {
                if (!isSure[f] && costs[f] < least) {
                    least = costs[f];
                    nearest = f;
                }
            }
            return nearest;
        }

        private void goOnFrom(Land land, int f) {
            for (int g = 0; g < land.fields; g++) {
                int toll = land.tollBetween(f, g, tolls);
                if (toll >= 0) {
                    costs[g] = Math.min(costs[g], costs[f] + toll);
                }
            }
        }

        /** The least other FIELD next to f by which one comes for COST to where spread() began. */
        int firstBy(Land land, int f) {
            for (int h = 0; h < land.fields; h++) {
                int toll = land.tollBetween(f, h, tolls);
                if (h != f && toll >= 0 && toll + costs[h] == costs[f]) {
                    return h;
                }
            }
            return f;
        }
    }

    /** THE TAPE, and how a TEXT is read from it. */
    private static final class Reader {
        private static final int NOTHING = 0;
        private static final int WORD = 1;
        private static final int NUMBER = 2;
        private static final int SEMICOLON = 3;
        private static final int MINUS = 4;
        private static final int STRANGE = 5;

        final byte[] tape = new byte[MOST_BYTES];
        int size;

        /** The TOKEN read latest: its sort, its first byte's place, that behind its last byte, its value. */
        private int sort;
        private int start;
        private int stop;
        private int value;
        private int fault;
        private final Wall wall = new Wall();
        private final int[] told = new int[4];

        /** How many ITEMS came to the estate, or -1 less the FAULT (the estate may have got some then). */
        int readItems(Estate estate, Blame blame) {
            stop = 0;
            // An ITEM has more than one byte, so there are never as many as bytes.
            for (int items = 1; items <= MOST_BYTES; items++) {
                step();
                if (!readItem(estate, blame)) {
                    return -1 - fault;
                }
                step();
                if (sort == NOTHING) {
                    return items;
                }
                if (sort != SEMICOLON) {
                    return -1 - start;
                }
            }
            return -1 - size;
        }

        private boolean readItem(Estate estate, Blame blame) {
            if (isWord("tide")) {
                return readTide(estate);
            }
            int kind = kindOfWord();
            if (kind < 0 || estate.many >= MOST_SEGMENTS) {
                return failsHere();
            }
            if (!readWall(kind)) {
                return false;
            }
            boolean isNoLine = told[0] == told[2] && told[1] == told[3];
            if (isNoLine || !blame.allows(estate, -1, wall, true)) {
                return failsHere();
            }
            estate.add(wall);
            return true;
        }

        private boolean readTide(Estate estate) {
            step();
            if (!isNumber(MOST_TIDE)) {
                return failsHere();
            }
            estate.tide = value;
            return true;
        }

        /** Reads up to the last NUMBER, which is the TOKEN at fault if the wall can't stand. */
        private boolean readWall(int kind) {
            int width = 0;
            step();
            if (isWord("wide")) {
                step();
                if (!isNumber(MOST_WIDTH)) {
                    return failsHere();
                }
                width = value;
                step();
            }
            if (!isWord("from")) {
                return failsHere();
            }
            if (!readV(0) || !readV(1)) {
                return false;
            }
            step();
            if (!isWord("to")) {
                return failsHere();
            }
            if (!readV(2) || !readV(3)) {
                return false;
            }
            wall.beOf(kind, width);
            wall.lay(told[0], told[1], told[2], told[3]);
            return true;
        }

        private boolean readV(int place) {
            step();
            boolean isBelow = sort == MINUS;
            if (isBelow) {
                step();
            }
            if (!isNumber(FARTHEST)) {
                return failsHere();
            }
            told[place] = isBelow ? -value : value;
            return true;
        }

        private boolean failsHere() {
            fault = start;
            return false;
        }

        private boolean isNumber(int most) {
            return sort == NUMBER && value <= most;
        }

        private int kindOfWord() {
            if (isWord("segment")) {
                return Wall.SEGMENT;
            }
            if (isWord("fence")) {
                return Wall.FENCE;
            }
            if (isWord("stream")) {
                return Wall.STREAM;
            }
            if (isWord("hedge")) {
                return Wall.HEDGE;
            }
            if (isWord("ditch")) {
                return Wall.DITCH;
            }
            return isWord("road") ? Wall.ROAD : -1;
        }

        private boolean isWord(String word) {
            if (sort != WORD || stop - start != word.length()) {
                return false;
            }
            for (int k = 0; k < word.length(); k++) {
                if (tape[start + k] != word.charAt(k)) {
                    return false;
                }
            }
            return true;
        }

        /** Reads the next TOKEN; behind the last one it is NOTHING, at the place behind all bytes. */
        private void step() {
            start = stop;
            while (start < size && tape[start] == ' ') {
                start++;
            }
            stop = start;
            if (start >= size) {
                sort = NOTHING;
            } else if (isLetter(start)) {
                sort = WORD;
                while (stop < size && isLetter(stop)) {
                    stop++;
                }
            } else if (isDigit(start)) {
                sort = NUMBER;
                readDigits();
            } else {
                sort = tape[start] == ';' ? SEMICOLON : tape[start] == '-' ? MINUS : STRANGE;
                stop++;
            }
        }

        private void readDigits() {
            value = 0;
            while (stop < size && isDigit(stop)) {
                // Beyond FARTHEST it doesn't matter how far, but it must not come round again.
                value = Math.min(FARTHEST + 1, 10 * value + tape[stop] - '0');
                stop++;
            }
        }

        private boolean isLetter(int place) {
            return tape[place] >= 'a' && tape[place] <= 'z';
        }

        private boolean isDigit(int place) {
            return tape[place] >= '0' && tape[place] <= '9';
        }
    }

    /** A row of bytes (sort 0), ints (1) or longs (2), or MISSING (-1). */
    private static final class Sheet {
        int sort = -1;
        int size;
        final long[] numbers = new long[MOST_NUMBERS];

        boolean isMissing() {
            return sort < 0;
        }

        void begin(int newSort, int newSize) {
            sort = newSort;
            size = newSize;
            for (int i = 0; i < MOST_NUMBERS; i++) {
                numbers[i] = 0;
            }
        }

        boolean has(int from, int n) {
            return from >= 0 && n >= 0 && from <= size && n <= size - from;
        }

        void put(int i, long v) {
            numbers[i] = sort == 0 ? (byte) v : sort == 1 ? (int) v : v;
        }
    }

    /** What SPOTS hold. */
    private static final class Spots {
        static final int CELL = 1;
        static final int END = 2;
        static final int SEGMENT = 3;

        final int[] sorts = new int[SPOTS];
        final int[] values = new int[SPOTS];

        void fill(int spot, int sort, int value) {
            sorts[spot] = sort;
            values[spot] = value;
        }

        boolean isFull(int spot, int segments) {
            return sorts[spot] == SEGMENT ? values[spot] < segments : sorts[spot] != 0;
        }

        int manyFull(int segments) {
            int full = 0;
            for (int spot = 0; spot < SPOTS; spot++) {
                if (isFull(spot, segments)) {
                    full++;
                }
            }
            return full;
        }
    }
}
