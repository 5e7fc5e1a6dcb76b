import java.util.List;

/** Boundary cases of promises 1 to 8: a new object, segment, move, become, drop, of, tide, blame. */
final class SegmentBoundaries extends Boundaries {
    // ---- a new object

    @Says(promise = 1, words = "All as at first; no SEGMENTS.")
    void nothingThereYet() {
        WalledFields w = new WalledFields();
        dueStatus(w);
        dueAll(row(0, 0, 1, 0, 0, 0, 0), w.count(0), w.count(1), w.count(2), w.count(3), w.count(4), w.count(5), w.count(6));
        dueAll(row(0, 1, 1, 0), w.many(0), w.many(1), w.many(2), w.many(3));
        dueAll(row(0, -1, 0), w.blame(0), w.blame(1), w.blame(2));
        due(0, w.book(0, 0));
        due(1, w.seed(1));
        due(0, w.wipe());
        for (int s = 0; s < 4; s++) due(longFinding(MISSING), w.item(s, 0));
        for (int spot = 0; spot < 10; spot++) due(finding(MISSING), w.taken(spot, 6));
        due(finding(BEYOND), w.row(0, 0));
        due(finding(BEYOND), w.of(0, 0));
        due(finding(NONE), w.back());
        due(finding(NONE), w.drop());
    }

    @Says(promise = 1, words = "All as at first")
    void anotherObjectsCallsDoNotCount() {
        WalledFields w = new WalledFields();
        richAndFull().tide(9);
        List<String> was = allOf(w, true);
        List<String> is = allOf(new WalledFields(), true);
        due(1, was.equals(is) ? 1 : 0);
        dueStatus(new WalledFields());
    }

    // ---- segment

    @Says(promise = 2, words = "A SEGMENT between two POINTS, told in any order: its number.")
    void numbersFromNoughtToFive() {
        WalledFields w = new WalledFields();
        for (int k = 0; k < 6; k++) {
            due(k, k % 2 == 0 ? w.segment(9, k, -99, k, 99) : w.segment(9, k, 99, k, -99));
            dueAll(row(k, -99, k, 99), w.of(k, 2), w.of(k, 3), w.of(k, 4), w.of(k, 5));
        }
        due(5, w.drop());
        due(5, w.segment(0, 50, 0, 51, 0));
        dueStatus(w);
    }

    @Says(promise = 2, words = "BEYOND: also both the same.")
    void segmentOfNoPointsOrKind() {
        for (int km : outside(0, 59)) refused(BEYOND, Boundaries::rich, w -> w.segment(km, 60, 60, 61, 61));
        refusedBeyond((w, x, y, u, v) -> w.segment(0, x, y, u, v));
        refused(BEYOND, Boundaries::rich, w -> w.segment(0, 60, 60, 60, 60));
        refused(BEYOND, Boundaries::empty, w -> w.segment(0, 0, 0, 0, 0));
        refused(BEYOND, Boundaries::rich, w -> w.segment(0, 99, -99, 99, -99));
        due(3, rich().segment(0, 60, 60, 60, 61));
        due(3, rich().segment(59, 60, 60, 61, 60));
    }

    @Says(promise = 2, words = "FULL.")
    void aSeventhSegment() {
        refused(FULL, Boundaries::richAndFull, w -> w.segment(0, 60, 60, 61, 61));
        // It isn't asked any more whether it would be APART.
        refused(FULL, Boundaries::richAndFull, w -> w.segment(0, 0, 0, 10, 0));
        refused(BEYOND, Boundaries::richAndFull, w -> w.segment(60, 60, 60, 61, 61));
        WalledFields w = richAndFull();
        due(5, w.drop());
        due(5, w.segment(0, 60, 60, 61, 61));
        due(finding(FULL), w.segment(0, 70, 70, 71, 71));
    }

    @Says(promise = 2, words = "STATE: it wouldn't be APART from another one (THE BLAME).")
    void aSegmentThatIsNotApart() {
        refusedWithBlame(Boundaries::rich, w -> w.segment(0, 0, 0, 10, 0));
        refusedWithBlame(Boundaries::rich, w -> w.segment(0, 5, 1, 5, -1));
        refusedWithBlame(Boundaries::rich, w -> w.segment(0, 20, 0, 21, 0));
        WalledFields w = rich();
        w.segment(0, 20, 0, 21, 0);
        dueAll(row(1, 2, 0), w.blame(0), w.blame(1), w.blame(2));
        w.segment(0, 19, 0, 21, 0);
        dueAll(row(2, 2, 0), w.blame(0), w.blame(1), w.blame(2));
        due(3, w.segment(0, 20, 5, 21, 0));
        due(4, w.segment(0, 20, 5, 20, 6));
        dueAll(row(2, 2, 0), w.blame(0), w.blame(1), w.blame(2));
    }

    // ---- move

    @Says(promise = 3, words = "A SEGMENT comes to lie between two POINTS: 1.")
    void aSegmentIsNotHeldAgainstItself() {
        WalledFields w = richAndFull();
        due(1, w.move(0, 0, 0, 10, 0));
        due(1, w.move(0, 10, 0, 5, 0));
        dueAll(row(0, 3, 5, 0, 10, 0), w.of(0, 0), w.of(0, 1), w.of(0, 2), w.of(0, 3), w.of(0, 4), w.of(0, 5));
        due(1, w.move(0, 6, 1, 6, -1));
        due(1, w.move(5, -99, -99, -99, 99));
        dueAll(row(5, 3, -99, -99, -99, 99), w.of(5, 0), w.of(5, 1), w.of(5, 2), w.of(5, 3), w.of(5, 4), w.of(5, 5));
        due(6, w.count(0));
        dueAll(row(2, 1, 0), w.blame(0), w.blame(1), w.blame(2));
    }

    @Says(promise = 3, words = "BEYOND, STATE likewise.")
    void moveIsRefused() {
        for (int i : outside(0, 2)) refused(BEYOND, Boundaries::rich, w -> w.move(i, 60, 60, 61, 61));
        refused(BEYOND, Boundaries::richAndFull, w -> w.move(6, 60, 60, 61, 61));
        refused(BEYOND, Boundaries::empty, w -> w.move(0, 60, 60, 61, 61));
        refusedBeyond((w, x, y, u, v) -> w.move(0, x, y, u, v));
        refused(BEYOND, Boundaries::rich, w -> w.move(0, 60, 60, 60, 60));
        refusedWithBlame(Boundaries::rich, w -> w.move(0, 2, 5, 8, 5));
        refusedWithBlame(Boundaries::rich, w -> w.move(2, 5, 1, 5, -1));
        WalledFields w = rich();
        w.move(2, 5, 6, 5, -1);
        dueAll(row(2, 0, 0), w.blame(0), w.blame(1), w.blame(2));
        w.move(0, 5, 6, 5, 5);
        dueAll(row(1, 1, 0), w.blame(0), w.blame(1), w.blame(2));
        due(1, w.move(2, 8, 5, 10, 0));
        dueAll(row(1, 1, 0), w.blame(0), w.blame(1), w.blame(2));
    }

    // ---- become

    @Says(promise = 4, words = "It becomes one of a KIND, with a WIDTH (km): the KIND that it was.")
    void fromTheFirstKindToTheLast() {
        WalledFields w = richAndFull();
        dueAll(row(0, 5, 0), w.become(0, 59), w.become(0, 0), w.become(0, 9));
        dueAll(row(0, 9), w.of(0, 0), w.of(0, 1));
        dueAll(row(0, 1), w.become(0, 10), w.become(0, 10));
        dueAll(row(5, 3, 5), w.become(5, 39), w.become(5, 50), w.become(5, 0));
        dueAll(row(0, 0), w.of(5, 0), w.of(5, 1));
    }

    @Says(promise = 4, words = "BEYOND.")
    void becomeIsRefused() {
        for (int i : outside(0, 2)) refused(BEYOND, Boundaries::rich, w -> w.become(i, 0));
        for (int km : outside(0, 59)) refused(BEYOND, Boundaries::rich, w -> w.become(0, km));
        refused(BEYOND, Boundaries::richAndFull, w -> w.become(6, 0));
        refused(BEYOND, Boundaries::empty, w -> w.become(0, 0));
    }

    // ---- drop

    @Says(promise = 5, words = "The last SEGMENT goes: how many are left.")
    void fromSixToNone() {
        WalledFields w = stack();
        for (int left = 5; left >= 0; left--) {
            due(left, w.drop());
            due(left, w.count(0));
            due(finding(BEYOND), w.of(left, 0));
            due(2 * left, w.many(0));
        }
        due(0, w.segment(0, 0, 0, 1, 0));
        due(0, w.drop());
    }

    @Says(promise = 5, words = "NONE: there is none.")
    void dropIsRefused() {
        refused(NONE, Boundaries::empty, WalledFields::drop);
        refused(NONE, () -> {
            WalledFields w = rich();
            for (int k = 0; k < 3; k++) w.drop();
            return w;
        }, WalledFields::drop);
    }

    // ---- of

    @Says(promise = 6, words = "7 how many FIELDS have it as FLOOR, 8 as ROOF.")
    void fromOneFieldToEleven() {
        WalledFields w = new WalledFields();
        w.segment(0, -99, 0, 99, 0);
        dueAll(row(1, 1), w.of(0, 7), w.of(0, 8));
        for (int k = 0; k < 5; k++) {
            w.segment(0, 10 * k, 5, 10 * k + 5, 5);
            dueAll(row(3 + 2 * k, 1), w.of(0, 7), w.of(0, 8));
            dueAll(row(1, 1), w.of(k + 1, 7), w.of(k + 1, 8));
        }
        for (int k = 0; k < 5; k++) w.move(k + 1, 10 * k, -5, 10 * k + 5, -5);
        dueAll(row(1, 11), w.of(0, 7), w.of(0, 8));
    }

    @Says(promise = 6, words = "Of a SEGMENT: 0 KIND, 1 WIDTH, 2 x, 3 y of its FIRST END, 4 x, 5 y of its LAST END, 6 TOLL")
    void ofTheLastSegment() {
        WalledFields w = richAndFull();
        dueAll(row(5, 3, 40, 20, 50, 20, 1, 1, 2), w.of(5, 0), w.of(5, 1), w.of(5, 2), w.of(5, 3), w.of(5, 4), w.of(5, 5), w.of(5, 6), w.of(5, 7), w.of(5, 8));
        dueAll(row(2, 4, 20, -5, 20, 5, 12, 1, 1), w.of(2, 0), w.of(2, 1), w.of(2, 2), w.of(2, 3), w.of(2, 4), w.of(2, 5), w.of(2, 6), w.of(2, 7), w.of(2, 8));
    }

    @Says(promise = 6, words = "BEYOND.")
    void ofIsRefused() {
        for (int i : outside(0, 2)) refused(BEYOND, Boundaries::rich, w -> w.of(i, 0));
        for (int what : outside(0, 8)) refused(BEYOND, Boundaries::rich, w -> w.of(0, what));
        refused(BEYOND, Boundaries::richAndFull, w -> w.of(6, 8));
        refused(BEYOND, Boundaries::empty, w -> w.of(0, 0));
    }

    // ---- tide

    @Says(promise = 7, words = "TIDE becomes v: what it was.")
    void fromTheLeastTideToTheMost() {
        WalledFields w = new WalledFields();
        dueAll(row(0, 3, 0, 1, 2, 3), w.tide(3), w.tide(0), w.tide(1), w.tide(2), w.tide(3), w.tide(3));
        dueStatus(w);
    }

    @Says(promise = 7, words = "BEYOND.")
    void tideIsRefused() {
        for (int v : outside(0, 3)) refused(BEYOND, Boundaries::rich, w -> w.tide(v));
    }

    // ---- blame

    @Says(promise = 8, words = "what 0 how (0 none yet, 1 TOUCHES, 2 CROSSES), 1 the number that the other SEGMENT had (-1: none yet), 2 whether in a TEXT (1, 0).")
    void noneYetAndTheNumberThatItHad() {
        WalledFields w = two();
        dueAll(row(0, -1, 0), w.blame(0), w.blame(1), w.blame(2));
        w.segment(60, 0, 0, 10, 0);
        w.segment(0, 5, 5, 5, 5);
        w.move(2, 0, 0, 10, 0);
        dueAll(row(0, -1, 0), w.blame(0), w.blame(1), w.blame(2));
        w.segment(0, 5, 5, 5, 9);
        dueAll(row(1, 1, 0), w.blame(0), w.blame(1), w.blame(2));
        // It keeps that number whatever becomes of the SEGMENT.
        w.image();
        w.renumber(1);
        due(1, w.blame(1));
        w.drop();
        w.drop();
        due(1, w.blame(1));
        w.back();
        dueAll(row(1, 1, 0), w.blame(0), w.blame(1), w.blame(2));
        due(-1 - 22, read(w, "segment from 5 9 to 5 0"));
        dueAll(row(1, 0, 1), w.blame(0), w.blame(1), w.blame(2));
    }

    @Says(promise = 8, words = "BEYOND.")
    void blameIsRefused() {
        for (int what : outside(0, 2)) refused(BEYOND, Boundaries::rich, w -> w.blame(what));
    }
}
