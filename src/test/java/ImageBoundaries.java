import java.util.List;
import java.util.function.ToLongFunction;

/** Boundary cases of promises 42 to 45: image, back, count, status. */
final class ImageBoundaries extends Boundaries {
    @Says(promise = 42, words = "SEGMENTS, TIDE, LEDGER, z are kept: 1.")
    void fromNothingToKeepToAll() {
        WalledFields w = empty();
        due(1, w.image());
        due(0, w.back());
        dueAll(row(0, 0, 1, 0), w.count(0), w.count(1), w.count(2), w.count(6));
        w = stack();
        w.tide(3);
        w.book(0, Long.MIN_VALUE);
        w.seed(LEAST);
        due(1, w.image());
        // What is kept doesn't change with what there is.
        w.become(0, 59);
        w.move(5, -99, -99, -98, -98);
        w.renumber(719);
        dropAll(w);
        w.tide(0);
        w.book(1, 0);
        w.seed(1);
        due(6, w.back());
        for (int k = 0; k < 6; k++) {
            dueAll(row(k, k, k - 20, 10 * k, k + 20, 10 * k), w.of(k, 0), w.of(k, 1), w.of(k, 2), w.of(k, 3), w.of(k, 4), w.of(k, 5));
        }
        dueAll(row(3, LEAST), w.count(1), w.count(2));
        due(Long.MIN_VALUE, w.book(0, 0));
        dueAll(row(12, 49, 19, 16), w.many(0), w.many(1), w.many(2), w.many(3));
    }

    @Says(promise = 43, words = "They become what was kept latest (which stays): how many SEGMENTS.")
    void theLatestStays() {
        WalledFields w = stack();
        w.image();
        w.drop();
        w.image();
        w.drop();
        dueAll(row(5, 5), w.back(), w.back());
        for (int k = 0; k < 3; k++) {
            w.move(0, -99, -99, -98, -99);
            w.become(0, 59);
            w.tide(3);
            w.segment(0, 70, 70, 71, 71);
            due(5, w.back());
            dueAll(row(5, -20, 0, 0), w.count(0), w.of(0, 2), w.of(0, 0), w.count(1));
        }
        dueStatus(w);
    }

    @Says(promise = 43, words = "They become what was kept latest")
    void whatIsNotKeptStays() {
        WalledFields w = rich();
        due(1, w.back());
        dueAll(row(1, 1, 1, 10, 2, 4, 0), w.count(0), w.count(1), w.count(2), w.count(3), w.count(4), w.count(5), w.count(6));
        dueAll(row(2, 1, 0, 9), w.blame(0), w.blame(1), w.blame(2), w.row(1, 1));
        dueAll(row(5, 3, 2005), w.item(0, 0), w.taken(0, 6), w.taken(1, 7));
    }

    @Says(promise = 43, words = "NONE: nothing is kept.")
    void backToNothing() {
        refused(NONE, Boundaries::empty, WalledFields::back);
        refused(NONE, Boundaries::stack, WalledFields::back);
        refused(NONE, Boundaries::nested, WalledFields::back);
    }

    // ---- count

    @Says(promise = 44, words = "0 SEGMENTS, 1 TIDE, 2 z, 3 ROWS OF FIELDS, 4 SPOTS that hold something now, 5 bytes of THE TAPE, 6 LEDGER.")
    void fromNoneToAsManyAsThereMayBe() {
        WalledFields w = empty();
        dueAll(row(0, 0, 1, 0, 0, 0, 0), w.count(0), w.count(1), w.count(2), w.count(3), w.count(4), w.count(5), w.count(6));
        w = stack();
        w.tide(3);
        w.seed(MOST);
        w.prove();
        for (int spot = 0; spot < 10; spot++) w.hold(spot, 1, spot % 2 == 0 ? 50 : 5);
        for (int k = 0; k < 30; k++) w.feed(0, 4);
        w.book(0, -7);
        dueAll(row(6, 3, MOST, 19, 10, 120, -7), w.count(0), w.count(1), w.count(2), w.count(3), w.count(4), w.count(5), w.count(6));
        w.drop();
        due(5, w.count(4));
        dueStatus(w);
    }

    @Says(promise = 44, words = "BEYOND.")
    void countIsRefused() {
        for (int what : outside(0, 6)) refused(BEYOND, Boundaries::rich, w -> w.count(what));
    }

    /** As stack(), with a LEDGER. */
    private static WalledFields ledgerOf(long ledger) {
        WalledFields w = stack();
        w.book(0, ledger);
        return w;
    }

    @Says(promise = 44, words = "OVER: LEDGER is no int.")
    void aLedgerThatIsNoInt() {
        for (long ledger : new long[] {LEAST, MOST, 0, -1}) due(ledger, ledgerOf(ledger).count(6));
        for (long ledger : new long[] {LEAST - 1L, MOST + 1L, 1L << 32, -1L << 32, Long.MIN_VALUE, Long.MAX_VALUE}) {
            refused(OVER, () -> ledgerOf(ledger), w -> w.count(6));
        }
        // One that looks like a finding is none.
        WalledFields w = ledgerOf(finding(OVER));
        due(finding(OVER), w.count(6));
        dueStatus(w);
    }

    // ---- status

    @Says(promise = 45, words = "How many acts answered a finding ever (back() takes none back): which -1: all, 0 to 7: BEYOND to OVER.")
    void eachFindingIsCounted() {
        WalledFields w = empty();
        dueStatus(w);
        List<ToLongFunction<WalledFields>> calls = List.of(
            f -> f.tide(4), f -> f.segment(0, 70, 70, 71, 71), f -> f.taken(0, 7), f -> f.next(0, 0), f -> f.steps(0, 0), f -> f.taken(9, 6),
            f -> f.sheet(0, 0, -1), f -> f.count(6));
        w = richAndFull();
        w.image();
        long[] counts = statusOf(w);
        for (int round = 1; round <= 2; round++) {
            for (int k = 0; k < 8; k++) {
                due(finding(k), calls.get(k).applyAsLong(w));
                counts[k]++;
                counts[8]++;
                dueAll(counts, statusOf(w));
                w.back();
            }
        }
        dueAll(counts, statusOf(w));
    }

    @Says(promise = 45, words = "BEYOND (counted from then on): another one.")
    void statusIsRefused() {
        for (int which : outside(-1, 7)) refused(BEYOND, Boundaries::rich, w -> w.status(which));
        WalledFields w = empty();
        dueAll(row(0, 0), w.status(0), w.status(-1));
        due(finding(BEYOND), w.status(8));
        dueAll(row(1, 1), w.status(0), w.status(-1));
        due(finding(BEYOND), w.status(-2));
        dueAll(row(2, 2, 0), w.status(0), w.status(-1), w.status(7));
    }
}
