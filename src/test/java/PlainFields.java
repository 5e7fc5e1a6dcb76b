import java.math.BigInteger;
import java.util.ArrayList;
import java.util.Arrays;
import java.util.HashMap;
import java.util.List;
import java.util.Map;
import java.util.regex.Matcher;
import java.util.regex.Pattern;

/**
 * The document's promises word by word, as slowly as they are told: what ComparedRunsTest holds
 * WalledFields against. It shares no code with WalledFields.
 */
public final class PlainFields {
    private static final int BEYOND = 0, FULL = 1, KIND = 2, NONE = 3, STATE = 4, MISSING = 5, SIZE = 6, OVER = 7;

    private List<PlainMap.Wall> walls = new ArrayList<>();
    private int tide;
    private BigInteger ledger = BigInteger.ZERO;
    private int z = 1;
    private List<PlainMap.Wall> keptWalls;
    private int keptTide;
    private BigInteger keptLedger;
    private int keptZ;
    private int blameHow;
    private int blameOther = -1;
    private int blameText;
    private final List<Integer> tape = new ArrayList<>();
    private final long[][] sheets = new long[4][];
    private final int[] sorts = new int[4];
    private final int[][] spots = new int[10][];
    private List<int[]> rows = new ArrayList<>();
    private final int[] status = new int[8];
    private Map<Integer, PlainMap> maps = new HashMap<>();
    private Map<Integer, Integer> stepsKnown = new HashMap<>();

    private int finding(int k) {
        status[k]++;
        return -1000001 - k;
    }

    private long longFinding(int k) {
        status[k]++;
        return -1000000000000000001L - k;
    }

    // ---- geometry

    private void changed() {
        maps = new HashMap<>();
        stepsKnown = new HashMap<>();
    }

    private PlainMap mapOf(int set) {
        return maps.computeIfAbsent(set, key -> new PlainMap(walls, key));
    }

    private PlainMap map() {
        return mapOf((1 << walls.size()) - 1);
    }

    private static boolean point(int x, int y) {
        return Math.abs((long) x) <= 99 && Math.abs((long) y) <= 99;
    }

    private static PlainMap.Wall wall(int km, int x, int y, int u, int v) {
        if (PlainMap.shear(x, y) < PlainMap.shear(u, v)) {
            return new PlainMap.Wall(km / 10, km % 10, x, y, u, v);
        }
        return new PlainMap.Wall(km / 10, km % 10, u, v, x, y);
    }

    private static boolean on(PlainMap.Wall w, int x, int y) {
        long cross = (long) (w.x() - x) * (w.v() - y) - (long) (w.y() - y) * (w.u() - x);
        long dot = (long) (w.x() - x) * (w.u() - x) + (long) (w.y() - y) * (w.v() - y);
        return cross == 0 && dot <= 0;
    }

    private static boolean isEnd(PlainMap.Wall w, int x, int y) {
        return w.x() == x && w.y() == y || w.u() == x && w.v() == y;
    }

    /** How many POINTS two lines have in common: 0, 1, or 2 for more; and whether the 1 is an END of both. */
    private static int[] common(PlainMap.Wall a, PlainMap.Wall b) {
        int ax = a.u() - a.x(), ay = a.v() - a.y(), bx = b.u() - b.x(), by = b.v() - b.y();
        int det = ax * by - ay * bx;
        int cx = b.x() - a.x(), cy = b.y() - a.y();
        if (det != 0) {
            int s = cx * by - cy * bx;
            int t = cx * ay - cy * ax;
            if (det < 0) {
                det = -det;
                s = -s;
                t = -t;
            }
            boolean meet = 0 <= s && s <= det && 0 <= t && t <= det;
            boolean ends = (s == 0 || s == det) && (t == 0 || t == det);
            return new int[] {meet ? 1 : 0, ends ? 1 : 0};
        }
        if (cx * ay - cy * ax != 0) {
            return new int[] {0, 0};
        }
        long from = Math.max(a.fromX(), b.fromX());
        long to = Math.min(a.toX(), b.toX());
        return from > to ? new int[] {0, 0} : from == to ? new int[] {1, 1} : new int[] {2, 0};
    }

    private static boolean apart(PlainMap.Wall a, PlainMap.Wall b) {
        int[] common = common(a, b);
        return common[0] == 0 || common[0] == 1 && common[1] == 1;
    }

    private boolean blamed(PlainMap.Wall w, int except, int inText) {
        for (int i = 0; i < walls.size(); i++) {
            PlainMap.Wall o = walls.get(i);
            if (i != except && !apart(w, o)) {
                boolean touch = on(o, w.x(), w.y()) || on(o, w.u(), w.v()) || on(w, o.x(), o.y()) || on(w, o.u(), o.v());
                blameHow = touch ? 1 : 2;
                blameOther = i;
                blameText = inText;
                return true;
            }
        }
        return false;
    }

    private static int toll(int kind, int width, int tide) {
        return switch (kind) {
            case 1 -> toll(0, width, tide) + 2;
            case 2 -> toll(0, width, tide) * (tide + 1);
            case 3 -> 2 * toll(1, width, tide);
            case 4 -> Math.max(0, toll(2, width, tide) - 3);
            case 5 -> toll(0, width, tide) / 2;
            default -> width;
        };
    }

    private int[] tolls() {
        return walls.stream().mapToInt(w -> toll(w.kind(), w.width(), tide)).toArray();
    }

    // ---- segments

    public int segment(int km, int x, int y, int u, int v) {
        if (km < 0 || km > 59 || !point(x, y) || !point(u, v) || x == u && y == v) return finding(BEYOND);
        if (walls.size() == 6) return finding(FULL);
        PlainMap.Wall w = wall(km, x, y, u, v);
        if (blamed(w, -1, 0)) return finding(STATE);
        walls.add(w);
        changed();
        return walls.size() - 1;
    }

    public int move(int i, int x, int y, int u, int v) {
        if (i < 0 || i >= walls.size() || !point(x, y) || !point(u, v) || x == u && y == v) return finding(BEYOND);
        PlainMap.Wall old = walls.get(i);
        PlainMap.Wall w = wall(10 * old.kind() + old.width(), x, y, u, v);
        if (blamed(w, i, 0)) return finding(STATE);
        walls.set(i, w);
        changed();
        return 1;
    }

    public int become(int i, int km) {
        if (i < 0 || i >= walls.size() || km < 0 || km > 59) return finding(BEYOND);
        PlainMap.Wall w = walls.get(i);
        walls.set(i, wall(km, w.x(), w.y(), w.u(), w.v()));
        changed();
        return w.kind();
    }

    public int drop() {
        if (walls.isEmpty()) return finding(NONE);
        walls.remove(walls.size() - 1);
        changed();
        return walls.size();
    }

    public int of(int i, int what) {
        if (i < 0 || i >= walls.size() || what < 0 || what > 8) return finding(BEYOND);
        PlainMap.Wall w = walls.get(i);
        return switch (what) {
            case 0 -> w.kind();
            case 1 -> w.width();
            case 2 -> w.x();
            case 3 -> w.y();
            case 4 -> w.u();
            case 5 -> w.v();
            case 6 -> toll(w.kind(), w.width(), tide);
            case 7 -> (int) map().fields.stream().filter(f -> f.floor == i).count();
            default -> (int) map().fields.stream().filter(f -> f.roof == i).count();
        };
    }

    public int tide(int v) {
        if (v < 0 || v > 3) return finding(BEYOND);
        int was = tide;
        tide = v;
        return was;
    }

    public int blame(int what) {
        if (what < 0 || what > 2) return finding(BEYOND);
        return what == 0 ? blameHow : what == 1 ? blameOther : blameText;
    }

    // ---- ends, fields

    public int many(int what) {
        if (what < 0 || what > 3) return finding(BEYOND);
        PlainMap map = map();
        if (what < 3) return what == 0 ? map.ends.size() : what == 1 ? map.cells.size() : map.fields.size();
        boolean[][] two = new boolean[map.fields.size()][map.fields.size()];
        int twos = 0;
        for (int a = 0; a < map.cells.size(); a++) {
            for (int b = 0; b < map.cells.size(); b++) {
                PlainMap.Cell low = map.cells.get(a), high = map.cells.get(b);
                if (low.strip() == high.strip() && low.number() + 1 == high.number()) {
                    int f = Math.min(map.fieldOfCell.get(a), map.fieldOfCell.get(b));
                    int g = Math.max(map.fieldOfCell.get(a), map.fieldOfCell.get(b));
                    twos += two[f][g] ? 0 : 1;
                    two[f][g] = true;
                }
            }
        }
        return twos;
    }

    public int end(int e, int what) {
        if (e < 0 || e >= map().ends.size() || what < 0 || what > 3) return finding(BEYOND);
        long end = map().ends.get(e);
        int y = (int) (Math.floorMod(end + 500, 1000L) - 500);
        int x = (int) ((end - y) / 1000);
        if (what < 2) return what == 0 ? x : y;
        return (int) walls.stream().filter(w -> (what == 2 ? w.fromX() : w.toX()) == end).count();
    }

    public int field(int f, int what) {
        if (f < 0 || f >= map().fields.size() || what < 0 || what > 4) return finding(BEYOND);
        return what == 4 ? map().fields.get(f).cells : rowOf(f)[what];
    }

    private int[] rowOf(int f) {
        PlainMap.Field field = map().fields.get(f);
        return new int[] {field.floor, field.roof, map().begin(f), map().close(f)};
    }

    private int cellOf(int x, int y) {
        return map().cellAt(PlainMap.Fraction.of(PlainMap.shear(x, y)), PlainMap.Fraction.of(y));
    }

    private int place(int x, int y) {
        int e = map().ends.indexOf(PlainMap.shear(x, y));
        if (e >= 0) return 100 + e;
        for (int i = 0; i < walls.size(); i++) {
            if (on(walls.get(i), x, y)) return 200 + i;
        }
        return map().fieldOfCell.get(cellOf(x, y));
    }

    public int at(int x, int y) {
        return point(x, y) ? place(x, y) : finding(BEYOND);
    }

    public int near(int x, int y, int what) {
        if (!point(x, y) || what < 0 || what > 3) return finding(BEYOND);
        if (place(x, y) >= 100) return finding(STATE);
        PlainMap.Cell cell = map().cells.get(cellOf(x, y));
        return what == 0 ? cell.floor() : what == 1 ? cell.roof() : what == 2 ? cell.strip() : cell.number();
    }

    public int sight(int x, int y, int u, int v) {
        if (!point(x, y) || !point(u, v) || x == u && y == v) return finding(BEYOND);
        PlainMap.Wall line = wall(0, x, y, u, v);
        return (int) walls.stream().filter(w -> common(w, line)[0] > 0).count();
    }

    // ---- searches

    private int stepsBy(int cell, int[] order) {
        int steps = 0;
        int ahead = 0;
        for (int s : order) {
            int key = (ahead * 8 + s) * 64 + cell;
            Integer known = stepsKnown.get(key);
            if (known == null) {
                known = stepsOf(map().cells.get(cell), s, mapOf(ahead));
                stepsKnown.put(key, known);
            }
            steps += known;
            ahead |= 1 << s;
        }
        return steps;
    }

    private int stepsOf(PlainMap.Cell cell, int s, PlainMap among) {
        PlainMap.Fraction x = map().middle(cell.strip());
        int g = among.fieldOfCell.get(among.cellAt(x, map().heightInside(cell)));
        PlainMap.Wall wall = walls.get(s);
        if (!among.runsThrough(wall, g)) return 0;
        int steps = 0;
        if (wall.fromX() > among.beginX(g)) steps++;
        if (x.compareTo(PlainMap.Fraction.of(wall.fromX())) < 0) return steps;
        if (wall.toX() < among.closeX(g)) steps++;
        if (x.compareTo(PlainMap.Fraction.of(wall.toX())) > 0) return steps;
        return steps + 1;
    }

    private int[] depthAndSum(int[] order) {
        int depth = 0;
        int sum = 0;
        for (int cell = 0; cell < map().cells.size(); cell++) {
            int steps = stepsBy(cell, order);
            depth = Math.max(depth, steps);
            sum += steps;
        }
        return new int[] {depth, sum};
    }

    private List<int[]> orders() {
        List<int[]> all = new ArrayList<>();
        addOrders(new int[0], all);
        return all;
    }

    private void addOrders(int[] begun, List<int[]> all) {
        if (begun.length == walls.size()) {
            all.add(begun);
            return;
        }
        for (int i = 0; i < walls.size(); i++) {
            int s = i;
            if (Arrays.stream(begun).noneMatch(b -> b == s)) {
                int[] more = Arrays.copyOf(begun, begun.length + 1);
                more[begun.length] = i;
                addOrders(more, all);
            }
        }
    }

    public int steps(int x, int y) {
        if (!point(x, y)) return finding(BEYOND);
        if (place(x, y) >= 100) return finding(STATE);
        return stepsBy(cellOf(x, y), orders().get(0));
    }

    public int depth(int what) {
        if (what < 0 || what > 1) return finding(BEYOND);
        return depthAndSum(orders().get(0))[what];
    }

    public int ordered(int order, int what) {
        List<int[]> all = orders();
        if (order < 0 || order >= all.size()) return finding(BEYOND);
        if (what == 0 || what == 1) return depthAndSum(all.get(order))[what];
        if (what < 10 || what - 10 >= walls.size()) return finding(BEYOND);
        return all.get(order)[what - 10];
    }

    public int best() {
        List<int[]> all = orders();
        int best = 0;
        int[] least = depthAndSum(all.get(0));
        for (int k = 1; k < all.size(); k++) {
            int[] now = depthAndSum(all.get(k));
            if (now[0] < least[0] || now[0] == least[0] && now[1] < least[1]) {
                best = k;
                least = now;
            }
        }
        return best;
    }

    public int renumber(int order) {
        List<int[]> all = orders();
        if (order < 0 || order >= all.size()) return finding(BEYOND);
        List<PlainMap.Wall> anew = new ArrayList<>();
        for (int i : all.get(order)) anew.add(walls.get(i));
        walls = anew;
        changed();
        return 1;
    }

    // ---- ways

    private boolean field(int f) {
        return f >= 0 && f < map().fields.size();
    }

    public int cost(int f, int g) {
        if (!field(f) || !field(g)) return finding(BEYOND);
        return map().fieldCosts(tolls())[f][g];
    }

    public int next(int f, int g) {
        if (!field(f) || !field(g)) return finding(BEYOND);
        if (f == g) return finding(NONE);
        int[][] costs = map().fieldCosts(tolls());
        int least = Integer.MAX_VALUE;
        for (int a = 0; a < map().cells.size(); a++) {
            for (int b = 0; b < map().cells.size(); b++) {
                int step = map().stepCost(a, b, tolls());
                int h = map().fieldOfCell.get(b);
                if (map().fieldOfCell.get(a) == f && h != f && step >= 0 && step + costs[h][g] == costs[f][g]) {
                    least = Math.min(least, h);
                }
            }
        }
        return least;
    }

    public int within(int f, int c) {
        if (!field(f) || c < 0 || c > 999) return finding(BEYOND);
        return (int) Arrays.stream(map().fieldCosts(tolls())[f]).filter(cost -> cost <= c).count();
    }

    private int costOfPoints(int x, int y, int u, int v) {
        return map().fieldCosts(tolls())[place(x, y)][place(u, v)];
    }

    public int lose(int x, int y, int u, int v) {
        if (!point(x, y) || !point(u, v)) return finding(BEYOND);
        if (place(x, y) >= 100 || place(u, v) >= 100) return finding(STATE);
        if (walls.isEmpty()) return finding(NONE);
        List<PlainMap.Wall> all = walls;
        int[] costs = new int[all.size()];
        for (int i = 0; i < all.size(); i++) {
            walls = new ArrayList<>(all);
            walls.remove(i);
            changed();
            costs[i] = costOfPoints(x, y, u, v);
        }
        walls = all;
        changed();
        return leastOf(costs);
    }

    private static int leastOf(int[] costs) {
        int least = 0;
        for (int i = 1; i < costs.length; i++) {
            if (costs[i] < costs[least]) least = i;
        }
        return least;
    }

    public int kindFor(int i, int x, int y, int u, int v) {
        if (i < 0 || i >= walls.size() || !point(x, y) || !point(u, v)) return finding(BEYOND);
        if (place(x, y) >= 100 || place(u, v) >= 100) return finding(STATE);
        PlainMap.Wall old = walls.get(i);
        int[] costs = new int[6];
        for (int kind = 0; kind < 6; kind++) {
            walls.set(i, new PlainMap.Wall(kind, old.width(), old.x(), old.y(), old.u(), old.v()));
            costs[kind] = costOfPoints(x, y, u, v);
        }
        walls.set(i, old);
        return leastOf(costs);
    }

    // ---- rows of points, draws

    public int asks(int s, int t) {
        if (s < 0 || s > 3 || t < 0 || t > 3) return finding(BEYOND);
        if (sheets[s] == null || sheets[t] == null) return finding(MISSING);
        List<Integer> answers = new ArrayList<>();
        for (int k = 0; k + 1 < sheets[s].length; k += 2) {
            long x = sheets[s][k], y = sheets[s][k + 1];
            if (x < -99 || x > 99 || y < -99 || y > 99 || answers.size() == sheets[t].length) break;
            answers.add(place((int) x, (int) y));
        }
        for (int k = 0; k < answers.size(); k++) sheets[t][k] = cut(t, answers.get(k));
        return answers.size();
    }

    public int loose(int n) {
        if (n < 1 || n > 20) return finding(BEYOND);
        int drawn = z;
        BigInteger sum = ledger;
        int held = 0;
        for (int k = 0; k < n; k++) {
            drawn = drawn * 1103515245 + 12345;
            int x = (drawn >>> 8) % 199 - 99;
            drawn = drawn * 1103515245 + 12345;
            int y = (drawn >>> 8) % 199 - 99;
            boolean isHeld = place(x, y) < 100;
            sum = sum.add(BigInteger.valueOf(isHeld ? stepsBy(cellOf(x, y), orders().get(0)) : 1));
            held += isHeld ? 1 : 0;
        }
        if (sum.bitLength() > 63) return finding(OVER);
        z = drawn;
        ledger = sum;
        return held;
    }

    public long book(int what, long v) {
        if (what < 0 || what > 1) return longFinding(BEYOND);
        BigInteger by = BigInteger.valueOf(v);
        BigInteger then = what == 0 ? ledger.add(by) : ledger.multiply(by);
        if (then.bitLength() > 63) return longFinding(OVER);
        ledger = then;
        return ledger.longValueExact();
    }

    public int seed(int v) {
        int was = z;
        z = v;
        return was;
    }

    // ---- rows of fields

    private List<int[]> allFields() {
        List<int[]> all = new ArrayList<>();
        for (int f = 0; f < map().fields.size(); f++) all.add(rowOf(f));
        return all;
    }

    public int prove() {
        rows = allFields();
        return rows.size();
    }

    public int row(int k, int what) {
        if (k < 0 || k >= rows.size() || what < 0 || what > 3) return finding(BEYOND);
        return rows.get(k)[what];
    }

    public int alter(int k, int what, int v) {
        if (k < 0 || k >= rows.size() || what < 0 || what > 3) return finding(BEYOND);
        int was = rows.get(k)[what];
        rows.get(k)[what] = v;
        return was;
    }

    public int judge() {
        List<int[]> all = allFields();
        for (int k = 0; k < Math.max(all.size(), rows.size()); k++) {
            if (k >= all.size() || k >= rows.size() || !Arrays.equals(all.get(k), rows.get(k))) return 1 + k;
        }
        return 0;
    }

    // ---- texts

    public int feed(int bytes, int n) {
        if (n < 1 || n > 4) return finding(BEYOND);
        if (tape.size() + n > 120) return finding(FULL);
        for (int k = n; k > 0; k--) tape.add(bytes >>> 8 * (k - 1) & 255);
        return tape.size();
    }

    public int wipe() {
        int had = tape.size();
        tape.clear();
        return had;
    }

    private static final class Fault extends RuntimeException {
        private static final long serialVersionUID = 1;
        final int place;
        Fault(int place) {
            super(null, null, false, false);
            this.place = place;
        }
    }

    private record Token(String text, int place) { }

    private List<Token> tokens;
    private int token;

    private Token peek() {
        return tokens.get(token);
    }

    private Token taken(String pattern) {
        Token here = peek();
        if (!here.text().matches(pattern)) throw new Fault(here.place());
        token++;
        return here;
    }

    private int number(int most) {
        int place = peek().place();
        BigInteger value = new BigInteger(taken("[0-9]+").text());
        if (value.compareTo(BigInteger.valueOf(most)) > 0) throw new Fault(place);
        return value.intValue();
    }

    private int signed() {
        boolean minus = peek().text().equals("-");
        if (minus) token++;
        return minus ? -number(99) : number(99);
    }

    public int text() {
        StringBuilder signs = new StringBuilder();
        for (int b : tape) signs.append((char) b);
        tape.clear();
        tokens = new ArrayList<>();
        Matcher matcher = Pattern.compile("[a-z]+|[0-9]+|[^ ]", Pattern.DOTALL).matcher(signs);
        while (matcher.find()) tokens.add(new Token(matcher.group(), matcher.start()));
        tokens.add(new Token("", signs.length()));
        token = 0;
        List<PlainMap.Wall> had = new ArrayList<>(walls);
        int hadTide = tide;
        try {
            int items = 0;
            do {
                item();
                items++;
            } while (!peek().text().isEmpty() && !taken(";").text().isEmpty());
            changed();
            return items;
        } catch (Fault fault) {
            walls = had;
            tide = hadTide;
            changed();
            return -1 - fault.place;
        }
    }

    private void item() {
        Token first = taken("tide|segment|fence|stream|hedge|ditch|road");
        if (first.text().equals("tide")) {
            tide = number(3);
            return;
        }
        if (walls.size() == 6) throw new Fault(first.place());
        int kind = List.of("segment", "fence", "stream", "hedge", "ditch", "road").indexOf(first.text());
        int width = 0;
        if (peek().text().equals("wide")) {
            token++;
            width = number(9);
        }
        taken("from");
        int x = signed();
        int y = signed();
        taken("to");
        int u = signed();
        int v = signed();
        int last = tokens.get(token - 1).place();
        if (x == u && y == v) throw new Fault(last);
        PlainMap.Wall wall = wall(10 * kind + width, x, y, u, v);
        if (blamed(wall, -1, 1)) throw new Fault(last);
        walls.add(wall);
    }

    // ---- sheets, spots

    private long cut(int s, long v) {
        return sorts[s] == 0 ? (byte) v : sorts[s] == 1 ? (int) v : v;
    }

    public int sheet(int s, int sort, int n) {
        if (s < 0 || s > 3 || sort < -1 || sort > 2) return finding(BEYOND);
        if (sort == -1) {
            sheets[s] = null;
            return 0;
        }
        if (n < 0) return finding(SIZE);
        if (n > 40) return finding(BEYOND);
        sheets[s] = new long[n];
        sorts[s] = sort;
        return n;
    }

    public int write(int s, int i, long v) {
        if (s < 0 || s > 3) return finding(BEYOND);
        if (sheets[s] == null) return finding(MISSING);
        if (i < 0 || i >= sheets[s].length) return finding(BEYOND);
        sheets[s][i] = cut(s, v);
        return 1;
    }

    public long item(int s, int i) {
        if (s < 0 || s > 3) return longFinding(BEYOND);
        if (sheets[s] == null) return longFinding(MISSING);
        if (i < 0 || i >= sheets[s].length) return longFinding(BEYOND);
        return sheets[s][i];
    }

    public int copy(int s, int i, int t, int j, int n) {
        if (s < 0 || s > 3 || t < 0 || t > 3) return finding(BEYOND);
        if (sheets[s] == null || sheets[t] == null) return finding(MISSING);
        if (sorts[s] != sorts[t]) return finding(KIND);
        if (i < 0 || j < 0 || n < 0 || (long) i + n > sheets[s].length || (long) j + n > sheets[t].length) return finding(BEYOND);
        long[] were = Arrays.copyOfRange(sheets[s], i, i + n);
        for (int k = 0; k < n; k++) sheets[t][j + k] = were[k];
        return n;
    }

    public int hold(int spot, int x, int y) {
        if (spot < 0 || spot > 9 || !point(x, y)) return finding(BEYOND);
        int thing = place(x, y);
        spots[spot] = thing >= 200 ? new int[] {0, thing - 200} : thing >= 100 ? new int[] {7, 1000 * x + y} : new int[] {6, thing};
        return 1;
    }

    public int taken(int spot, int as) {
        if (spot < 0 || spot > 9 || as < 0 || as > 7) return finding(BEYOND);
        if (!isFull(spot)) return finding(MISSING);
        int[] held = spots[spot];
        if (held[0] != 0) return held[0] == as ? held[1] : finding(KIND);
        List<Integer> over = List.of(List.of(0), List.of(1, 0), List.of(2, 0), List.of(3, 1, 0), List.of(4, 2, 0), List.of(5, 0))
            .get(walls.get(held[1]).kind());
        return over.contains(as) ? held[1] : finding(KIND);
    }

    private boolean isFull(int spot) {
        return spots[spot] != null && (spots[spot][0] != 0 || spots[spot][1] < walls.size());
    }

    // ---- images

    public int image() {
        keptWalls = new ArrayList<>(walls);
        keptTide = tide;
        keptLedger = ledger;
        keptZ = z;
        return 1;
    }

    public int back() {
        if (keptWalls == null) return finding(NONE);
        walls = new ArrayList<>(keptWalls);
        tide = keptTide;
        ledger = keptLedger;
        z = keptZ;
        changed();
        return walls.size();
    }

    public int count(int what) {
        if (what < 0 || what > 6) return finding(BEYOND);
        switch (what) {
            case 0: return walls.size();
            case 1: return tide;
            case 2: return z;
            case 3: return rows.size();
            case 4:
                int full = 0;
                for (int spot = 0; spot < 10; spot++) full += isFull(spot) ? 1 : 0;
                return full;
            case 5: return tape.size();
            default: return ledger.bitLength() > 31 ? finding(OVER) : ledger.intValueExact();
        }
    }

    public int status(int which) {
        if (which < -1 || which > 7) return finding(BEYOND);
        return which < 0 ? Arrays.stream(status).sum() : status[which];
    }
}
