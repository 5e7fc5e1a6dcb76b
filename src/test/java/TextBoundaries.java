import java.util.List;

/** Boundary cases of the document's TEXTS, and of promises 33 to 35: feed, wipe, text. */
final class TextBoundaries extends Boundaries {
    private static final String BLANKS = " ".repeat(120);

    /** As rich(), with an empty tape. */
    private static WalledFields ready() {
        WalledFields w = rich();
        w.wipe();
        return w;
    }

    /** A text is at fault at a place: nothing changes but THE TAPE, and it is no finding. */
    private void faulty(int fault, String text) {
        WalledFields other = ready();
        WalledFields w = ready();
        long[] before = statusOf(w);
        due(-1 - fault, read(w, text));
        dueAll(before, statusOf(w));
        due(0, w.count(5));
        List<String> was = allOf(other, true);
        List<String> is = allOf(w, true);
        due(1, was.equals(is) ? 1 : 0);
    }

    /** A text of so many ITEMS. */
    private void fine(int items, String text) {
        WalledFields w = ready();
        long[] before = statusOf(w);
        due(items, read(w, text));
        dueAll(before, statusOf(w));
        due(0, w.count(5));
    }

    // ---- TOKENS

    @Says(words = "A TEXT is read from THE TAPE (bytes, at most 120).")
    void aTextOfAllTheTape() {
        fine(1, "tide 3" + BLANKS.substring(6));
        fine(1, BLANKS.substring(6) + "tide 3");
        faulty(120, BLANKS);
        faulty(119, "tide 3" + BLANKS.substring(7) + "x");
        faulty(120, "tide 3" + BLANKS.substring(7) + ";");
        fine(2, "tide 3;" + BLANKS.substring(13) + "tide 2");
    }

    @Says(words = "TOKENS, each as long as can be: WORDS (letters a to z)")
    void wordsOfLettersAlone() {
        faulty(0, "tides 3");
        faulty(0, "tidetide 3");
        faulty(0, "roadfrom 0 50 to 1 50");
        faulty(5, "road widefrom 0 50 to 1 50");
        faulty(0, "tid");
        faulty(0, "Tide 3");
        faulty(0, "TIDE 3");
        faulty(4, "tideA3");
        faulty(4, "tideZ3");
        faulty(4, "tide`3");
        faulty(4, "tide{3");
        faulty(0, "`tide 3");
        faulty(0, "{tide 3");
        faulty(4, "tide_3");
        faulty(0, "a");
        faulty(0, "z");
        faulty(0, "az 3");
        faulty(0, "tidez 3");
        faulty(0, "tidea 3");
        // With any letter another one it is no such WORD.
        for (String word : new String[] {"segment", "fence", "stream", "hedge", "ditch", "road", "tide"}) {
            for (int k = 0; k < word.length(); k++) faulty(0, otherAt(word, k) + (word.equals("tide") ? " 3" : " from 60 60 to 61 61"));
        }
        for (int k = 0; k < 4; k++) {
            faulty(5, "road " + otherAt("wide", k) + " 3 from 60 60 to 61 61");
            faulty(5, "road " + otherAt("from", k) + " 60 60 to 61 61");
        }
        faulty(16, "road from 60 60 " + otherAt("to", 0) + " 61 61");
        faulty(16, "road from 60 60 " + otherAt("to", 1) + " 61 61");
    }

    private static String otherAt(String word, int k) {
        char other = word.charAt(k) == 'z' ? 'y' : (char) (word.charAt(k) + 1);
        return word.substring(0, k) + other + word.substring(k + 1);
    }

    @Says(words = "NUMBERS (digits, 99 at most)")
    void numbersUpToNinetyNine() {
        WalledFields w = empty();
        due(1, read(w, "road from 99 99 to 98 99"));
        dueAll(row(98, 99, 99, 99), w.of(0, 2), w.of(0, 3), w.of(0, 4), w.of(0, 5));
        faulty(10, "road from 100 60 to 61 60");
        faulty(13, "road from 60 100 to 61 60");
        faulty(19, "road from 60 60 to 100 60");
        faulty(22, "road from 60 60 to 61 100");
        faulty(10, "road from 999999999999999999999 60 to 61 60");
        faulty(10, "road from 4294967296 60 to 61 60");
        fine(1, "road from 0060 060 to 00061 0060");
        fine(1, "tide 0000000000000000000003");
        faulty(5, "tide 0000000000000000000004");
        faulty(6, "tide 3/");
        faulty(6, "tide 3:");
        faulty(5, "tide /3");
        faulty(5, "tide :3");
    }

    @Says(words = "SIGNS ; - ; blanks may stand between.")
    void whatMayStandBetween() {
        fine(2, "tide3;tide2");
        fine(2, "  tide  3  ;  tide  2  ");
        fine(1, "road wide9from60 50to61 50");
        fine(1, "road wide 9 from - 60 - 50 to - 61-50");
        fine(1, "road from-60-50to-61-50");
        for (char sign : new char[] {'\t', '\n', '\r', 0, 31, 33, 127, 160, 255, ',', '.', '+', '_', '<', ':'}) {
            faulty(4, "tide" + sign + "3");
            faulty(6, "tide 3" + sign);
            faulty(0, sign + "tide 3");
        }
        faulty(9, "road from+60 50to61 50");
    }

    @Says(words = "V: a NUMBER, perhaps with - ahead of it.")
    void aSignAheadOfANumber() {
        WalledFields w = empty();
        due(2, read(w, "road from -99 - 99 to -0 -99;road from - 0 -0 to 0 1"));
        dueAll(row(-99, -99, 0, -99, 0, 0, 0, 1), w.of(0, 2), w.of(0, 3), w.of(0, 4), w.of(0, 5), w.of(1, 2), w.of(1, 3), w.of(1, 4), w.of(1, 5));
        faulty(11, "road from --60 60 to 61 61");
        faulty(11, "road from -100 60 to 61 61");
        faulty(12, "road from - to 61 61");
        faulty(11, "road from -;");
        faulty(5, "tide -0");
        faulty(10, "road wide -1 from 60 60 to 61 61");
        faulty(15, "road from 60 - to 61 61");
    }

    // ---- TEXT, ITEMS

    @Says(words = "TEXT: ITEM { ; ITEM }.")
    void fromNoItemToTwenty() {
        faulty(0, "");
        faulty(1, " ");
        faulty(0, ";");
        faulty(0, ";tide 3");
        faulty(7, "tide 3;");
        faulty(9, "tide 3;  ");
        faulty(7, "tide 3;;tide 2");
        faulty(7, "tide 3 tide 2");
        faulty(6, "tide 3-");
        fine(1, "tide 3");
        fine(2, "tide 3;tide 2");
        fine(20, "tide0;".repeat(19) + "tide1");
        faulty(120, "tide0;".repeat(20));
        WalledFields w = ready();
        read(w, "tide0;".repeat(19) + "tide1");
        due(1, w.count(1));
    }

    @Says(words = "ITEM: tide and a NUMBER (0 to 3);")
    void tidesOfATextFromNoughtToThree() {
        for (int tide = 0; tide <= 3; tide++) {
            WalledFields w = ready();
            due(1, read(w, "tide " + tide));
            due(tide, w.count(1));
        }
        faulty(5, "tide 4");
        faulty(5, "tide 99");
        faulty(5, "tide 100");
        faulty(5, "tide -1");
        faulty(5, "tide x");
        faulty(5, "tide ;");
        faulty(4, "tide");
        faulty(5, "tide ");
        faulty(7, "tide 3 1");
    }

    @Says(words = "segment, fence, stream, hedge, ditch or road, perhaps wide and a NUMBER (0 to 9; 0 without)")
    void widthsOfATextFromNoughtToNine() {
        String[] words = {"segment", "fence", "stream", "hedge", "ditch", "road"};
        for (int kind = 0; kind < 6; kind++) {
            for (int width = -1; width <= 9; width++) {
                WalledFields w = empty();
                String wide = width < 0 ? "" : " wide " + width;
                due(1, read(w, words[kind] + wide + " from 60 60 to 61 61"));
                dueAll(row(kind, Math.max(0, width)), w.of(0, 0), w.of(0, 1));
            }
            int place = words[kind].length() + 6;
            faulty(place, words[kind] + " wide 10 from 60 60 to 61 61");
            faulty(place, words[kind] + " wide 99 from 60 60 to 61 61");
            faulty(place, words[kind] + " wide -1 from 60 60 to 61 61");
            faulty(place, words[kind] + " wide from 60 60 to 61 61");
            faulty(0, words[kind] + "s from 60 60 to 61 61");
            faulty(0, words[kind].substring(1) + " from 60 60 to 61 61");
        }
        faulty(12, "road wide 1 wide 2 from 60 60 to 61 61");
        faulty(25, "road from 60 60 to 61 61 wide 3");
    }

    @Says(words = "then from, two V, to, two V (a POINT, another one): a new SEGMENT.")
    void eachTokenOfAWall() {
        faulty(5, "road 60 60 to 61 61");
        faulty(5, "road to 61 61 from 60 60");
        faulty(10, "road from to 61 61");
        faulty(13, "road from 60 to 61 61");
        faulty(16, "road from 60 60 61 61");
        faulty(16, "road from 60 60 60 to 61 61");
        faulty(16, "road from 60 60 from 61 61");
        faulty(15, "road from 60 60;");
        faulty(18, "road from 60 60 to;");
        faulty(22, "road from 60 60 to 61 ;");
        faulty(25, "road from 60 60 to 61 61 61");
        faulty(25, "road from 60 60 to 61 61 road from 70 70 to 71 71");
        WalledFields w = ready();
        due(1, read(w, "road from 60 60 to 61 61"));
        due(4, w.count(0));
        due(1, read(w, "road from 61 61 to 60 61"));
        dueAll(row(60, 61, 61, 61), w.of(4, 2), w.of(4, 3), w.of(4, 4), w.of(4, 5));
    }

    // ---- FAULT

    @Says(words = "FAULT: the place (from 0) of the first byte of the first TOKEN that can't stand there")
    void theFirstFaultOfSeveral() {
        faulty(0, "x y z");
        faulty(3, "   x");
        faulty(7, "tide 1;tides 2;;x");
        faulty(12, "tide 1;tide 9;x");
        faulty(3, "   99999");
        // What is at fault behind it isn't asked for.
        faulty(26, "tide 3;road from 60 60 to 200 61;road from 0 0 to 10 0");
        faulty(0, "\u0000");
        faulty(0, "\u00ff");
    }

    @Says(words = "the WORD of a 7th SEGMENT;")
    void aSeventhSegmentOfATextIsAtFault() {
        WalledFields w = richAndFull();
        w.wipe();
        long[] before = statusOf(w);
        due(-1, read(w, "road from 60 60 to 61 61"));
        due(-1 - 7, read(w, "tide 3;road from 60 60 to 61 61"));
        due(-1 - 9, read(w, "tide 3;  hedge"));
        dueAll(row(6, 2), w.count(0), w.count(1));
        dueAll(row(2, 1, 0), w.blame(0), w.blame(1), w.blame(2));
        due(1, read(w, "tide 3"));
        w.drop();
        due(-1 - 25, read(w, "road from 60 60 to 61 61;road from 70 70 to 71 71"));
        due(5, w.count(0));
        due(1, read(w, "road from 60 60 to 61 61"));
        due(6, w.count(0));
        dueAll(before, statusOf(w));
        w = empty();
        due(3, read(w, "road from 1 1 to 2 1;road from 1 2 to 2 2;road from 1 3 to 2 3"));
        due(3, read(w, "road from 1 4 to 2 4;road from 1 5 to 2 5;road from 1 6 to 2 6"));
        due(-1, read(w, "road from 1 7 to 2 7"));
        w = empty();
        due(5, read(w, "road from 1 1 to 2 1;road from 1 2 to 2 2;road from 1 3 to 2 3;road from 1 4 to 2 4;road from 1 5 to 2 5"));
        due(-1 - 21, read(w, "road from 1 6 to 2 6;road from 1 7 to 2 7"));
        due(5, w.count(0));
    }

    @Says(words = "of the last V the NUMBER, if both POINTS are the same, or the SEGMENT wouldn't be APART from another one")
    void theLastNumberIsAtFault() {
        faulty(22, "road from 60 60 to 60 60");
        faulty(22, "road from 60 60 to 60 060;tide 9");
        faulty(26, "road from -60 -60 to -60 -60");
        faulty(22, "road from 0 -0 to 0 - 0");
        WalledFields w = ready();
        long[] before = statusOf(w);
        due(-1 - 21, read(w, "road from 5 9 to 5  -9"));
        dueAll(row(2, 0, 1), w.blame(0), w.blame(1), w.blame(2));
        due(-1 - 20, read(w, "road from 5 9 to 5  5;x"));
        dueAll(row(1, 1, 1), w.blame(0), w.blame(1), w.blame(2));
        // From one that came in the same TEXT; it goes again, its number stays told.
        due(-1 - 47, read(w, "road from 60 60 to 70 60;road from 65 65 to 65 50"));
        dueAll(row(2, 3, 1), w.blame(0), w.blame(1), w.blame(2));
        due(3, w.count(0));
        dueAll(before, statusOf(w));
    }

    @Says(words = "or how many bytes there are if it ends too early.")
    void aTextThatEndsTooEarly() {
        String whole = "road wide 3 from -60 60 to 61 61";
        // Cut where a TOKEN ends, or in the blanks behind it.
        for (int cut : new int[] {4, 5, 9, 10, 11, 12, 16, 17, 18, 19, 20, 21, 22, 23, 24, 26, 27, 28, 29, 30}) faulty(cut, whole.substring(0, cut));
        // Cut in a WORD it is that WORD.
        faulty(0, whole.substring(0, 3));
        faulty(5, whole.substring(0, 8));
        faulty(12, whole.substring(0, 15));
        faulty(24, whole.substring(0, 25));
        fine(1, whole);
        fine(1, whole.substring(0, 31));
        faulty(33, whole + ";");
        faulty(34, whole + "; ");
        faulty(0, "");
    }

    // ---- feed

    @Says(promise = 33, words = "THE TAPE gets the n lowest bytes of a number behind it, the highest of these first (n 1 to 4): how many it has.")
    void theLowestBytesTheHighestFirst() {
        WalledFields w = empty();
        due(1, w.feed(0xffffff74, 1));
        due(3, w.feed(0xffff6964, 2));
        due(6, w.feed(0xff652033, 3));
        due(1, w.text());
        due(3, w.count(1));
        due(4, w.feed(0x74696465, 4));
        due(5, w.feed(0x80000032, 1));
        due(1, w.text());
        due(2, w.count(1));
        // A byte of 128 and more is none of the signs of a TEXT.
        w.feed(0x746964e5, 4);
        due(-1, w.text());
        w.feed(0xf4696465, 4);
        w.feed(0x32, 1);
        due(-1, w.text());
        due(4, w.feed(LEAST, 4));
        due(8, w.feed(MOST, 4));
        due(12, w.feed(-1, 4));
        dueStatus(w);
    }

    @Says(promise = 33, words = "BEYOND: n.")
    void feedOfNoNumberOfBytes() {
        for (int n : new int[] {0, 5, -1, LEAST, MOST}) {
            refused(BEYOND, Boundaries::rich, w -> w.feed(0x20202020, n));
            refused(BEYOND, Boundaries::empty, w -> w.feed(0, n));
        }
        for (int n = 1; n <= 4; n++) due(4 + n, rich().feed(0x20202020, n));
    }

    /** As rich(), with so many bytes on the tape. */
    private static WalledFields taped(int bytes) {
        WalledFields w = rich();
        int had = 4;
        for (; had + 4 <= bytes; had += 4) w.feed(0x20202020, 4);
        for (; had < bytes; had++) w.feed(0x20, 1);
        return w;
    }

    @Says(promise = 33, words = "FULL.")
    void aTapeOfOneHundredAndTwentyBytes() {
        for (int n = 1; n <= 4; n++) {
            int bytes = n;
            due(120, taped(120 - n).feed(0x20202020, n));
            refused(FULL, () -> taped(120 - bytes + 1), w -> w.feed(0x20202020, bytes));
        }
        refused(FULL, () -> taped(120), w -> w.feed(0, 1));
        refused(BEYOND, () -> taped(120), w -> w.feed(0, 5));
        WalledFields w = taped(118);
        due(finding(FULL), w.feed(0, 3));
        due(118, w.count(5));
        due(120, w.feed(0x3320, 2));
        due(1, w.text());
        due(3, w.count(1));
        due(4, w.feed(0, 4));
    }

    // ---- wipe

    @Says(promise = 34, words = "THE TAPE is empty: how many it had.")
    void fromNoByteToAll() {
        WalledFields w = empty();
        dueAll(row(0, 0), w.wipe(), w.wipe());
        w.feed(0, 1);
        dueAll(row(1, 0), w.wipe(), w.count(5));
        w = taped(120);
        dueAll(row(120, 0, 0), w.wipe(), w.count(5), w.wipe());
        due(4, w.feed(0x74696465, 4));
        due(6, w.feed(0x2033, 2));
        due(1, w.text());
        due(0, w.wipe());
    }

    // ---- text

    @Says(promise = 35, words = "THE TAPE is a TEXT, and empty then; all that it tells comes to what there is, item by item: how many ITEMS.")
    void itemByItem() {
        WalledFields w = ready();
        due(4, read(w, "tide 3;road wide 1 from 60 60 to 61 61;tide 1;ditch from 61 61 to 62 60"));
        dueAll(row(5, 1, 0), w.count(0), w.count(1), w.count(5));
        dueAll(row(5, 1, 4, 0), w.of(3, 0), w.of(3, 1), w.of(4, 0), w.of(4, 1));
        due(-1, w.text());
        dueAll(row(107, 1), w.at(61, 61), w.blame(1));
    }

    @Says(promise = 35, words = "With a FAULT: -1 less the FAULT (nothing changes but that THE TAPE is empty, and THE BLAME, if it is a SEGMENT that wouldn't be APART; no finding).")
    void aFaultTakesAllBack() {
        faulty(0, "");
        faulty(120, BLANKS);
        faulty(6, "tide 0.");
        faulty(51, "tide 0;road from 60 60 to 61 61;fence from 70 70 to;");
        faulty(57, "tide 0;road from 60 60 to 61 61;fence from 70 70 to 70   70");
        for (String text : new String[] {"tide 0;road from 60 60 to 61 61;fence from 5 5 to 9 9", "tide 0;fence from 5 5 to 9 9;x"}) {
            WalledFields other = ready();
            WalledFields w = ready();
            long[] before = statusOf(w);
            due(-1 - text.indexOf("9 9") - 2, read(w, text));
            dueAll(before, statusOf(w));
            due(1, allOf(other, false).equals(allOf(w, false)) ? 1 : 0);
        }
    }
}
