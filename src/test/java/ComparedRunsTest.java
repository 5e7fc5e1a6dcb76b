import java.lang.reflect.Method;
import java.util.ArrayList;
import java.util.Arrays;
import java.util.List;
import java.util.Random;

/** Long runs of calls told by fixed seeds, answered by WalledFields and by PlainFields alike. */
public final class ComparedRunsTest {
    private static final int CALLS = 512;

    private final Random random;
    private final int reach;
    private final WalledFields real = new WalledFields();
    private final PlainFields plain = new PlainFields();
    private final List<String> told = new ArrayList<>();

    private ComparedRunsTest(long seed) {
        random = new Random(seed);
        reach = new int[] {2, 3, 5, 9, 99}[(int) (seed % 5)];
    }

    public static void main(String[] args) throws ReflectiveOperationException {
        int runs = args.length > 0 ? Integer.parseInt(args[0]) : 400;
        int from = args.length > 1 ? Integer.parseInt(args[1]) : 0;
        for (int seed = from; seed < from + runs; seed++) {
            if (!new ComparedRunsTest(seed).run()) {
                System.out.println("seed " + seed + " has unlike answers");
                System.exit(1);
            }
        }
        System.out.println(runs + " runs of " + CALLS + " calls are answered alike");
    }

    private boolean run() throws ReflectiveOperationException {
        while (told.size() < CALLS) {
            if (!next()) {
                int rows = told.size();
                told.subList(Math.max(0, rows - 40), rows).forEach(System.out::println);
                return false;
            }
        }
        return true;
    }

    private boolean next() throws ReflectiveOperationException {
        switch (random.nextInt(61)) {
            case 0, 1, 2, 3, 4, 5: return same("segment", km(), at(), at(), at(), at());
            case 6, 7, 8: return same("move", few(6), at(), at(), at(), at());
            case 9: return same("become", few(6), km());
            case 10: return random.nextBoolean() || same("drop");
            case 11: return same("of", few(6), few(8));
            case 12: return same("tide", few(3));
            case 13: return same("blame", few(2));
            case 14: return same("many", few(3));
            case 15: return same("end", few(12), few(3));
            case 16, 17: return same("field", few(18), few(4));
            case 18, 19: return same("at", at(), at());
            case 20: return same("near", at(), at(), few(3));
            case 21: return same("sight", at(), at(), at(), at());
            case 22, 23: return same("steps", at(), at());
            case 24: return same("depth", few(1));
            case 25: return same("ordered", order(), random.nextInt(3) == 0 ? 10 + few(5) : few(1));
            case 26: return random.nextInt(8) > 0 || same("best");
            case 27: return random.nextInt(3) > 0 || same("renumber", order());
            case 28, 29: return same("cost", few(18), few(18));
            case 30, 31: return same("next", few(18), few(18));
            case 32: return same("within", few(18), random.nextInt(20) == 0 ? 998 + few(3) : few(30));
            case 33: return same("lose", at(), at(), at(), at());
            case 34: return same("kindFor", few(5), at(), at(), at(), at());
            case 35: return same("asks", few(3), few(3));
            case 36: return same("loose", few(20));
            case 37: return same("book", few(1), amount());
            case 38: return random.nextInt(2) > 0 || same("seed", random.nextInt());
            case 39: return same("prove");
            case 40: return same("row", few(18), few(3));
            case 41: return random.nextInt(3) > 0 || same("alter", few(18), few(3), few(6));
            case 42, 43: return same("judge");
            case 44: return same("feed", random.nextInt(), few(4));
            case 45: return same("wipe");
            case 46: return random.nextBoolean() || text();
            case 47: return random.nextInt(8) > 0 || glut();
            case 48, 60: return same("sheet", few(3), few(12) / 4 - (random.nextInt(9) == 0 ? 1 : 0), random.nextInt(9) == 0 ? 36 + few(6) : few(12));
            case 49, 50: return same("write", few(3), few(9), random.nextInt(9) == 0 ? random.nextLong() : (long) at());
            case 51: return same("item", few(3), few(9));
            case 52: return same("copy", few(3), few(6), few(3), few(6), few(6));
            case 53, 54: return same("hold", few(9), at(), at());
            case 55, 56: return same("taken", few(9), few(7));
            case 57: return random.nextInt(2) > 0 || same("image");
            case 58: return random.nextInt(3) > 0 || same("back");
            default: return same("count", few(6)) && same("status", few(8) - 1);
        }
    }

    private int few(int most) {
        int wild = random.nextInt(200);
        if (wild == 0) return new int[] {Integer.MIN_VALUE, Integer.MAX_VALUE, -2, 1 << 30}[random.nextInt(4)];
        if (wild < 4) return most + 1;
        if (wild < 7) return -1;
        return random.nextInt(most + 1);
    }

    private int at() {
        int wild = random.nextInt(300);
        if (wild == 0) return new int[] {Integer.MIN_VALUE, Integer.MAX_VALUE, 100, -100}[random.nextInt(4)];
        if (wild < 4) return random.nextBoolean() ? 99 : -99;
        return random.nextInt(2 * reach + 1) - reach;
    }

    private int km() {
        return random.nextInt(30) == 0 ? new int[] {-1, 60, Integer.MIN_VALUE, 59}[random.nextInt(4)] : random.nextInt(60);
    }

    private int order() {
        int orders = new int[] {1, 1, 2, 6, 24, 120, 720}[Math.min(6, Math.max(0, plain.count(0)))];
        return few(orders - 1);
    }

    private long amount() {
        switch (random.nextInt(6)) {
            case 0: return random.nextLong();
            case 1: return new long[] {Long.MIN_VALUE, Long.MAX_VALUE, 0, -1, 1L << 32}[random.nextInt(5)];
            default: return random.nextInt(9) - 4;
        }
    }

    private boolean text() throws ReflectiveOperationException {
        if (random.nextInt(4) > 0 && !same("wipe") || random.nextInt(3) == 0 && !same("drop")) return false;
        StringBuilder text = new StringBuilder();
        int items = 1 + random.nextInt(3);
        for (int k = 0; k < items; k++) {
            if (k > 0) text.append(blank()).append(';').append(blank());
            text.append(item());
        }
        if (random.nextInt(3) == 0) text.append("  ".substring(random.nextInt(3)));
        for (int flaws = random.nextInt(9) - 6; flaws > 0 && text.length() > 0; flaws--) {
            int place = random.nextInt(text.length());
            String flaw = new String[] {"", "", ";", "-", "9", "x", " ", "to", "A", "\u00e9"}[random.nextInt(10)];
            text.replace(place, random.nextBoolean() ? place : Math.min(text.length(), place + 1 + random.nextInt(4)), flaw);
        }
        return feedAll(text) && same("text") && same("blame", few(2)) && same("count", 0);
    }

    /** More bytes than THE TAPE takes. */
    private boolean glut() throws ReflectiveOperationException {
        for (int k = 0; k < 35; k++) {
            if (!same("feed", random.nextInt(), 1 + random.nextInt(4))) return false;
        }
        return same(random.nextBoolean() ? "text" : "wipe");
    }

    private boolean feedAll(StringBuilder text) throws ReflectiveOperationException {
        for (int k = 0; k < text.length(); k += 4) {
            int n = Math.min(4, text.length() - k);
            int bytes = random.nextInt();
            for (int j = 0; j < n; j++) bytes = bytes << 8 | text.charAt(k + j) & 255;
            if (!same("feed", bytes, n)) return false;
        }
        return true;
    }

    private String item() {
        if (random.nextInt(6) == 0) return "tide" + blank() + random.nextInt(5);
        String kind = new String[] {"segment", "fence", "stream", "hedge", "ditch", "road"}[random.nextInt(6)];
        String wide = random.nextBoolean() ? " wide" + blank() + random.nextInt(11) : "";
        return kind + wide + " from" + blank() + number() + " " + number() + blank() + "to" + blank() + number() + " " + number();
    }

    private String number() {
        int value = random.nextInt(2 * reach + 1) - reach;
        String digits = (random.nextInt(20) == 0 ? "0" : "") + Math.abs(value) + (random.nextInt(60) == 0 ? "00" : "");
        return (value < 0 ? "-" + blank() : "") + digits;
    }

    private String blank() {
        return random.nextInt(3) == 0 ? " " : "";
    }

    private boolean same(String name, Object... args) throws ReflectiveOperationException {
        Object due = methodOf(PlainFields.class, name).invoke(plain, args);
        Object got = methodOf(WalledFields.class, name).invoke(real, args);
        told.add(name + Arrays.toString(args) + " answered " + got + ", due is " + due);
        return got.equals(due);
    }

    private static Method methodOf(Class<?> owner, String name) {
        for (Method method : owner.getMethods()) {
            if (method.getName().equals(name)) return method;
        }
        throw new IllegalArgumentException(name);
    }
}
