import java.util.ArrayList;
import java.util.Arrays;
import java.util.List;
import java.util.TreeSet;

/**
 * ENDS, STRIPS, CELLS and FIELDS found another way than in WalledFields: the plane is sheared
 * by X = 1000 x + y, Y = y, which keeps every TURN and makes ORDER plain "from left to right".
 * In the sheared plane no segment stands upright, so heights can be compared as fractions.
 */
final class PlainMap {
    record Wall(int kind, int width, int x, int y, int u, int v) {
        long fromX() { return shear(x, y); }
        long toX() { return shear(u, v); }
        Fraction heightAt(Fraction at) {
            Fraction slope = new Fraction(v - y, toX() - fromX());
            return Fraction.of(y).plus(at.plus(Fraction.of(-fromX())).times(slope));
        }
    }

    record Cell(int strip, int number, int floor, int roof) { }

    static final class Field {
        int floor;
        int roof;
        int first;
        int last;
        int cells;
    }

    static long shear(int x, int y) {
        return 1000L * x + y;
    }

    final List<Wall> walls;
    final List<Integer> present = new ArrayList<>();
    final List<Long> ends;
    final List<Cell> cells = new ArrayList<>();
    final List<Integer> fieldOfCell = new ArrayList<>();
    final List<Field> fields = new ArrayList<>();

    /** The map of those walls alone whose bits are in the set; they keep their numbers. */
    PlainMap(List<Wall> walls, int set) {
        this.walls = walls;
        TreeSet<Long> all = new TreeSet<>();
        for (int i = 0; i < walls.size(); i++) {
            if ((set >> i & 1) == 1) {
                present.add(i);
                all.add(walls.get(i).fromX());
                all.add(walls.get(i).toX());
            }
        }
        ends = new ArrayList<>(all);
        for (int strip = 0; strip <= ends.size(); strip++) {
            addStrip(strip);
        }
    }

    private void addStrip(int strip) {
        Fraction middle = middle(strip);
        List<Integer> through = new ArrayList<>();
        for (int i : present) {
            if (strip > 0 && strip < ends.size()
                && walls.get(i).fromX() <= ends.get(strip - 1) && ends.get(strip) <= walls.get(i).toX()) {
                through.add(i);
            }
        }
        through.sort((a, b) -> walls.get(a).heightAt(middle).compareTo(walls.get(b).heightAt(middle)));
        for (int c = 0; c <= through.size(); c++) {
            int floor = c == 0 ? -1 : through.get(c - 1);
            int roof = c == through.size() ? -1 : through.get(c);
            cells.add(new Cell(strip, c, floor, roof));
            fieldOfCell.add(fieldFor(strip, floor, roof));
        }
    }

    private int fieldFor(int strip, int floor, int roof) {
        for (int f = 0; f < fields.size(); f++) {
            Field old = fields.get(f);
            if (old.floor == floor && old.roof == roof && old.last == strip - 1) {
                old.last = strip;
                old.cells++;
                return f;
            }
        }
        Field fresh = new Field();
        fresh.floor = floor;
        fresh.roof = roof;
        fresh.first = strip;
        fresh.last = strip;
        fresh.cells = 1;
        fields.add(fresh);
        return fields.size() - 1;
    }

    Fraction middle(int strip) {
        if (ends.isEmpty()) {
            return Fraction.of(0);
        }
        if (strip == 0) {
            return Fraction.of(ends.get(0) - 1);
        }
        if (strip == ends.size()) {
            return Fraction.of(ends.get(strip - 1) + 1);
        }
        return new Fraction(ends.get(strip - 1) + ends.get(strip), 2);
    }

    /** A height inside of a CELL, at the middle of its STRIP. */
    Fraction heightInside(Cell cell) {
        Fraction middle = middle(cell.strip());
        if (cell.floor() < 0 && cell.roof() < 0) {
            return Fraction.of(0);
        }
        if (cell.floor() < 0) {
            return walls.get(cell.roof()).heightAt(middle).plus(Fraction.of(-1));
        }
        Fraction floor = walls.get(cell.floor()).heightAt(middle);
        if (cell.roof() < 0) {
            return floor.plus(Fraction.of(1));
        }
        return floor.plus(walls.get(cell.roof()).heightAt(middle)).times(new Fraction(1, 2));
    }

    /** The CELL that a place of the sheared plane is in; it must be at no END's X and on no wall. */
    int cellAt(Fraction x, Fraction y) {
        int strip = 0;
        for (long end : ends) {
            if (Fraction.of(end).compareTo(x) < 0) {
                strip++;
            }
        }
        int found = -1;
        for (int k = 0; k < cells.size(); k++) {
            Cell cell = cells.get(k);
            boolean isOverFloor = cell.floor() < 0 || walls.get(cell.floor()).heightAt(x).compareTo(y) < 0;
            boolean isUnderRoof = cell.roof() < 0 || walls.get(cell.roof()).heightAt(x).compareTo(y) > 0;
            if (cell.strip() == strip && isOverFloor && isUnderRoof) {
                if (found >= 0) {
                    throw new IllegalStateException("two CELLS hold one place");
                }
                found = k;
            }
        }
        if (found < 0) {
            throw new IllegalStateException("no CELL holds a place");
        }
        return found;
    }

    int begin(int f) {
        return fields.get(f).first - 1;
    }

    int close(int f) {
        return fields.get(f).last == ends.size() ? -1 : fields.get(f).last;
    }

    long beginX(int f) {
        return begin(f) < 0 ? -1000000 : ends.get(begin(f));
    }

    long closeX(int f) {
        return close(f) < 0 ? 1000000 : ends.get(close(f));
    }

    /** Whether a wall that needn't be of this map runs through the inside of a FIELD of it. */
    boolean runsThrough(Wall wall, int f) {
        long from = Math.max(wall.fromX(), beginX(f));
        long to = Math.min(wall.toX(), closeX(f));
        if (from >= to) {
            return false;
        }
        Fraction middle = new Fraction(from + to, 2);
        Fraction height = wall.heightAt(middle);
        int floor = fields.get(f).floor;
        int roof = fields.get(f).roof;
        return (floor < 0 || walls.get(floor).heightAt(middle).compareTo(height) < 0)
            && (roof < 0 || walls.get(roof).heightAt(middle).compareTo(height) > 0);
    }

    /** COST from each CELL to each, by the words of a WAY. */
    int[][] cellCosts(int[] tolls) {
        int n = cells.size();
        int[][] costs = new int[n][n];
        for (int a = 0; a < n; a++) {
            for (int b = 0; b < n; b++) {
                int step = a == b ? 0 : stepCost(a, b, tolls);
                costs[a][b] = step < 0 ? 1000000 : step;
            }
        }
        for (int m = 0; m < n; m++) {
            for (int a = 0; a < n; a++) {
                for (int b = 0; b < n; b++) {
                    costs[a][b] = Math.min(costs[a][b], costs[a][m] + costs[m][b]);
                }
            }
        }
        return costs;
    }

    int stepCost(int a, int b, int[] tolls) {
        Cell one = cells.get(a);
        Cell other = cells.get(b);
        if (one.strip() == other.strip()) {
            if (one.number() + 1 == other.number()) {
                return tolls[one.roof()];
            }
            return other.number() + 1 == one.number() ? tolls[other.roof()] : -1;
        }
        if (Math.abs(one.strip() - other.strip()) != 1) {
            return -1;
        }
        return one.floor() == other.floor() || one.roof() == other.roof() ? 0 : -1;
    }

    int[][] fieldCosts(int[] tolls) {
        int[][] byCell = cellCosts(tolls);
        int[][] costs = new int[fields.size()][fields.size()];
        for (int[] line : costs) {
            Arrays.fill(line, 1000000);
        }
        for (int a = 0; a < cells.size(); a++) {
            for (int b = 0; b < cells.size(); b++) {
                int f = fieldOfCell.get(a);
                int g = fieldOfCell.get(b);
                costs[f][g] = Math.min(costs[f][g], byCell[a][b]);
            }
        }
        return costs;
    }

    /** An exact fraction; its numbers stay far below what a long holds here. */
    record Fraction(long over, long under) implements Comparable<Fraction> {
        Fraction {
            if (under == 0) {
                throw new IllegalArgumentException("a fraction under 0");
            }
            if (under < 0) {
                over = Math.negateExact(over);
                under = Math.negateExact(under);
            }
            long common = common(Math.abs(over), under);
            over /= common;
            under /= common;
        }

        private static long common(long a, long b) {
            return b == 0 ? Math.max(1, a) : common(b, a % b);
        }

        static Fraction of(long whole) {
            return new Fraction(whole, 1);
        }

        Fraction plus(Fraction other) {
            return new Fraction(Math.addExact(Math.multiplyExact(over, other.under),
                Math.multiplyExact(other.over, under)), Math.multiplyExact(under, other.under));
        }

        Fraction times(Fraction other) {
            return new Fraction(Math.multiplyExact(over, other.over), Math.multiplyExact(under, other.under));
        }

        @Override
        public int compareTo(Fraction other) {
            return Long.compare(Math.multiplyExact(over, other.under), Math.multiplyExact(other.over, under));
        }
    }
}
