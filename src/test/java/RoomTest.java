import java.lang.management.ManagementFactory;

/** All calls of a run live in one room: an object is small, and no call makes another one. */
public final class RoomTest {
    private static final long MOST_OF_AN_OBJECT = 40000;

    public static void main(String[] args) {
        callAll(new WalledFields());
        long before = made();
        WalledFields fields = new WalledFields();
        long born = made();
        for (int k = 0; k < 20; k++) callAll(fields);
        long after = made();
        System.out.println("an object takes " + (born - before) + " bytes, 20 rounds of calls " + (after - born));
        if (born - before > MOST_OF_AN_OBJECT || after - born > 2000) System.exit(1);
    }

    private static long made() {
        return ((com.sun.management.ThreadMXBean) ManagementFactory.getThreadMXBean()).getThreadAllocatedBytes(Thread.currentThread().getId());
    }

    private static void callAll(WalledFields w) {
        w.segment(5, -1, -1, 1, -1);
        w.segment(5, 1, -1, 0, 1);
        w.segment(5, 0, 1, -1, -1);
        w.segment(7, -9, -9, 9, -9);
        w.segment(7, 9, -9, 0, 9);
        w.move(0, 1, -1, -1, -1);
        w.become(0, 13);
        for (int what = -1; what < 10; what++) {
            w.of(0, what);
            w.end(0, what);
            w.field(0, what);
            w.many(what);
            w.near(50, 50, what);
            w.count(what);
            w.status(what);
            w.taken(0, what);
            w.blame(what);
        }
        w.tide(2);
        w.at(0, 0);
        w.sight(-50, -50, 50, 40);
        w.steps(50, 50);
        w.depth(0);
        w.ordered(100, 0);
        w.ordered(100, 12);
        w.best();
        w.renumber(7);
        w.best();
        w.cost(0, 5);
        w.next(0, 5);
        w.within(3, 9);
        w.lose(0, 0, 50, 50);
        w.kindFor(1, 0, 0, 50, 50);
        w.sheet(0, 1, 40);
        w.sheet(1, 0, 40);
        w.write(0, 3, 9);
        w.item(0, 3);
        w.copy(0, 0, 0, 1, 5);
        w.asks(0, 1);
        w.loose(20);
        w.book(1, 3);
        w.seed(9);
        w.prove();
        w.row(0, 0);
        w.alter(0, 0, 4);
        w.judge();
        String text = "tide 3;road wide 3 from 0 9 to - 9 -9";
        for (int k = 0; k < text.length(); k++) w.feed(text.charAt(k), 1);
        w.text();
        w.feed(7, 4);
        w.wipe();
        w.hold(0, 0, 0);
        w.image();
        w.drop();
        w.back();
        w.drop();
    }
}
