/** Objects that tests try calls on, and how a TEXT is told. */
abstract class Lands {
    static WalledFields empty() {
        return new WalledFields();
    }

    /** A wall with a shorter one over it: ENDS (0, 0), (2, 5), (8, 5), (10, 0); FIELDS 0 to 6. */
    static WalledFields two() {
        WalledFields w = new WalledFields();
        w.segment(3, 0, 0, 10, 0);
        w.segment(2, 8, 5, 2, 5);
        return w;
    }

    /** A triangle of TOLLS 5 each in a triangle of TOLLS 7 each. */
    static WalledFields nested() {
        WalledFields w = new WalledFields();
        w.segment(5, -1, -1, 1, -1);
        w.segment(5, 1, -1, 0, 1);
        w.segment(5, 0, 1, -1, -1);
        w.segment(7, -9, -9, 9, -9);
        w.segment(7, 9, -9, 0, 9);
        w.segment(7, 0, 9, -9, -9);
        return w;
    }

    /** Six level walls, each begun and closed apart from all others: as many ENDS, CELLS and FIELDS as there may be. */
    static WalledFields stack() {
        WalledFields w = new WalledFields();
        for (int k = 0; k < 6; k++) {
            w.segment(10 * k + k, k - 20, 10 * k, k + 20, 10 * k);
        }
        return w;
    }

    static void dropAll(WalledFields w) {
        for (int left = w.count(0); left > 0; left--) {
            w.drop();
        }
    }

    static void tell(WalledFields w, String text) {
        for (int k = 0; k < text.length(); k++) {
            w.feed(text.charAt(k), 1);
        }
    }

    static int read(WalledFields w, String text) {
        tell(w, text);
        return w.text();
    }
}
