/** The document's boundary cases of slots' rows and of what was seen: promises 61 to 65 and 84 to 86. */
public final class RowBoundaryTests {
    /** Piece p has heat p, from which it never goes: so a row's number tells itself as a skin that is felt. */
    private static final String TELLING = Bounds.head(3, 0, 0, 1, 0) + Bounds.piece(0, 1, 0, 0)
            + Bounds.piece(1, 1, 0, 0) + Bounds.piece(2, 1, 0, 0) + Bounds.piece(3, 1, 0, 0)
            + Bounds.piece(4, 1, 0, 0) + Bounds.piece(5, 1, 0, 0);

    private static final int[] NO_SLOTS = {-1, 4, Bounds.MIN, Bounds.MAX};

    private RowBoundaryTests() { }

    public static void main(String[] args) {
        rowsThatThereAreNot();
        rowsRefused();
        rowsOfNoneAndSixty();
        rowsInPlace();
        writesRefused();
        writesCut();
        pastesOfNothing();
        pastesThatFit();
        pastesBeyond();
        pastesOrder();
        pastesAsTheyWere();
        seenRefused();
        seenInOrder();
        seenNumbers();
        seenWideNumbers();
        seenNotThreeEach();
        seenNoneAndTwenty();
        airsOfSeveral();
        lowAndHighAlone();
        seenByTheMean();
        airsAtTheirEnds();
        airsWithActs();
        airsBeforeAndAfter();
        thicksSeen();
        lawsSeen();
        Checks.close("RowBoundaryTests");
    }

    private static void is(int promise, String what, long got, long want) {
        Bounds.is(promise, what, got, want);
    }

    /** Which number (0 .. 5) stands in a row, by a lehr that tells it; -1: another one. Slot 3 is used for it. */
    private static int read(LehrBelt x, int slot, int i, int width) {
        for (int v = 0; v <= 5; v++) {
            x.row(3, width, 3);
            x.write(3, 0, v);
            x.paste(slot, i, 3, 2, 1);
            if (x.laws(3) == 15) {
                return v;
            }
        }
        return -1;
    }

    private static void rowIs(int promise, String what, LehrBelt x, int slot, int width, int... numbers) {
        for (int i = 0; i < numbers.length; i++) {
            is(promise, what + ": number " + i, read(x, slot, i, width), numbers[i]);
        }
    }

    private static LehrBelt withRow(int slot, int width, long... numbers) {
        LehrBelt x = Bounds.belt(TELLING);
        fill(x, slot, width, numbers);
        return x;
    }

    private static void fill(LehrBelt x, int slot, int width, long... numbers) {
        x.row(slot, width, numbers.length);
        for (int i = 0; i < numbers.length; i++) {
            x.write(slot, i, numbers[i]);
        }
    }

    // ---- promise 84

    private static void rowsThatThereAreNot() {
        LehrBelt x = new LehrBelt();
        for (int slot : NO_SLOTS) {
            is(84, "row(" + slot + ", 0, 1)", x.row(slot, 0, 1), -2);
            is(84, "row(" + slot + ", 0, -1): -2 ahead of -3", x.row(slot, 0, -1), -2);
        }
        for (int width : new int[] {-1, 4, Bounds.MIN, Bounds.MAX}) {
            is(84, "row(0, " + width + ", 1)", x.row(0, width, 1), -2);
            is(84, "row(0, " + width + ", -1): -2 ahead of -3", x.row(0, width, -1), -2);
        }
        for (int n : new int[] {61, 62, Bounds.MAX}) {
            is(84, "row(0, 0, " + n + ")", x.row(0, 0, n), -2);
        }
        for (int n : new int[] {-1, -2, Bounds.MIN}) {
            is(84, "row(0, 0, " + n + ")", x.row(0, 0, n), -3);
        }
        is(84, "count(10): none was made", x.count(10), 0);
        int made = 0;
        for (int slot = 0; slot <= 3; slot++) {
            is(84, "write(" + slot + ", 0, 0): it has nothing yet", x.write(slot, 0, 0), -6);
            is(84, "row(" + slot + ", " + slot + ", 60)", x.row(slot, slot, 60), 0);
            made++;
            is(84, "count(10)", x.count(10), made);
        }
        is(84, "row(3, 0, 0) in place of another", x.row(3, 0, 0), 0);
        is(84, "count(10)", x.count(10), 4);
    }

    /** "-3, and the SLOT stays"; one that is refused by -2 changes nothing either. */
    private static void rowsRefused() {
        for (int k = 0; k < 5; k++) {
            LehrBelt x = withRow(0, 1, 5, 4, 3);
            switch (k) {
                case 0: is(84, "row(0, 0, -1)", x.row(0, 0, -1), -3); break;
                case 1: is(84, "row(0, 2, MIN)", x.row(0, 2, Bounds.MIN), -3); break;
                case 2: is(84, "row(0, 0, 61)", x.row(0, 0, 61), -2); break;
                case 3: is(84, "row(0, 4, 2)", x.row(0, 4, 2), -2); break;
                default: is(84, "row(0, -1, 2)", x.row(0, -1, 2), -2); break;
            }
            rowIs(84, "the slot stays", x, 0, 1, 5, 4, 3);
            is(84, "write(0, 2, 1): as long as it was", x.write(0, 2, 1), 0);
            is(84, "write(0, 3, 1): as long as it was", x.write(0, 3, 1), -7);
        }
    }

    private static void rowsOfNoneAndSixty() {
        LehrBelt x = Bounds.belt(TELLING);
        is(84, "row(0, 0, 0)", x.row(0, 0, 0), 0);
        is(84, "count(10): a row of none is one", x.count(10), 1);
        is(84, "write(0, 0, 0) of none", x.write(0, 0, 0), -7);
        is(84, "laws(0) of none: it has something", x.laws(0), 15);
        is(84, "row(0, 0, 1)", x.row(0, 0, 1), 0);
        is(84, "write(0, 0, 0) of one", x.write(0, 0, 0), 0);
        is(84, "write(0, 1, 0) of one", x.write(0, 1, 0), -7);
        is(84, "row(0, 3, 60)", x.row(0, 3, 60), 0);
        is(84, "write(0, 59, 0) of sixty", x.write(0, 59, 0), 0);
        is(84, "write(0, 60, 0) of sixty", x.write(0, 60, 0), -7);
        is(84, "laws(0): all 0, of piece 0 in step 0", x.laws(0), 15);
        x.write(0, 59, 1);
        is(84, "laws(0): the last number counts", x.laws(0), 0);
    }

    /** "all 0 (in place of another one)". */
    private static void rowsInPlace() {
        for (int width = 0; width < 4; width++) {
            LehrBelt x = withRow(0, 3 - width, 5, 4, 3, 2);
            is(84, "row(0, " + width + ", 4)", x.row(0, width, 4), 0);
            rowIs(84, "all 0, of width " + width, x, 0, width, 0, 0, 0, 0);
            x.row(1, width, 1);
            is(84, "paste: it is of the new width", x.paste(0, 0, 1, 0, 1), 0);
        }
        LehrBelt x = withRow(0, 2, 5, 4, 3, 2);
        x.row(0, 2, 2);
        x.row(0, 2, 4);
        rowIs(84, "all 0, though it was shorter in between", x, 0, 2, 0, 0, 0, 0);
        LehrBelt apart = withRow(0, 2, 5, 4);
        apart.row(1, 2, 2);
        apart.row(2, 2, 2);
        rowIs(84, "each slot by itself", apart, 0, 2, 5, 4);
    }

    // ---- promise 85

    private static void writesRefused() {
        LehrBelt x = new LehrBelt();
        for (int slot : NO_SLOTS) {
            is(85, "write(" + slot + ", 0, 0)", x.write(slot, 0, 0), -2);
        }
        for (int slot = 0; slot <= 3; slot++) {
            is(85, "write(" + slot + ", 0, 0)", x.write(slot, 0, 0), -6);
            is(85, "write(" + slot + ", -1, 0): -6 ahead of -7", x.write(slot, -1, 0), -6);
        }
        LehrBelt three = withRow(1, 2, 5, 4, 3);
        for (int i : new int[] {-1, 3, 4, 59, 60, Bounds.MIN, Bounds.MAX}) {
            is(85, "write(1, " + i + ", 1) of three", three.write(1, i, 1), -7);
        }
        rowIs(85, "nothing is changed by what is refused", three, 1, 2, 5, 4, 3);
        is(85, "write(1, 0, 2)", three.write(1, 0, 2), 0);
        is(85, "write(1, 2, 1)", three.write(1, 2, 1), 0);
        rowIs(85, "those written alone", three, 1, 2, 2, 4, 1);
        three.row(1, 2, 4);
        is(85, "write(1, 3, 5) of four", three.write(1, 3, 5), 0);
        rowIs(85, "nothing was left beyond its end", three, 1, 2, 0, 0, 0, 5);
    }

    /** "is v, cut to its WIDTH": of 1, 2, 4 or 8 bytes. */
    private static void writesCut() {
        for (int width = 0; width < 4; width++) {
            int bits = 8 << width;
            long more = bits < 64 ? 1L << bits : 0;
            long[] as3 = {3, 3 + more, 3 - more, 3 + 5 * more};
            for (long v : as3) {
                is(85, v + " by width " + width, read(withRow(0, width, v), 0, 0, width), 3);
            }
            long[] others = {3 + (1L << bits - 1), -1, -3, Long.MIN_VALUE + 3 + more / 2, 6};
            for (long v : others) {
                is(85, v + " by width " + width, read(withRow(0, width, v), 0, 0, width) == 3 ? 1 : 0, 0);
            }
        }
        // the greatest of one byte is a heat, the next one is below 0
        LehrBelt bytes = Bounds.belt(Bounds.head(1, 0, 0, 1, 0), Bounds.piece(127, 1, 0, 0));
        long[] v = {127, 128, 127 + 256, 255, -1, -129, 127 - 256};
        int[] laws = {15, -2, 15, -2, -2, 15, 15};
        for (int i = 0; i < v.length; i++) {
            fill(bytes, 0, 0, 0, 0, v[i]);
            is(85, "laws(0) by a byte of " + v[i], bytes.laws(0), laws[i]);
        }
        long[] shorts = {32767, 32768, 65536 + 127, 65535, 127};
        int[] lawsOfShorts = {0, -2, 15, -2, 15};
        for (int i = 0; i < shorts.length; i++) {
            fill(bytes, 0, 1, 0, 0, shorts[i]);
            is(85, "laws(0) by two bytes of " + shorts[i], bytes.laws(0), lawsOfShorts[i]);
        }
        long[] ints = {100_000, 100_001, 1L << 31, (1L << 32) + 127, (1L << 32) - 1, Long.MIN_VALUE + 127};
        int[] lawsOfInts = {0, -2, -2, 15, -2, 15};
        for (int i = 0; i < ints.length; i++) {
            fill(bytes, 0, 2, 0, 0, ints[i]);
            is(85, "laws(0) by four bytes of " + ints[i], bytes.laws(0), lawsOfInts[i]);
        }
        long[] longs = {127, (1L << 32) + 127, Long.MIN_VALUE + 127, Long.MAX_VALUE, Long.MIN_VALUE, -1};
        for (int i = 0; i < longs.length; i++) {
            fill(bytes, 0, 3, 0, 0, longs[i]);
            is(85, "laws(0) by eight bytes of " + longs[i], bytes.laws(0), i == 0 ? 15 : -2);
        }
    }

    // ---- promise 86

    /** "(also where n is 0, a place above how many it has)": right behind the last one none can be put. */
    private static void pastesOfNothing() {
        LehrBelt x = withRow(0, 2, 5, 4, 3);
        fill(x, 1, 2, 2, 1);
        x.row(2, 2, 0);
        int[][] rows = {{0, 0, 1, 0, 0}, {0, 3, 1, 0, 0}, {0, 4, 1, 0, -7}, {0, 0, 1, 2, 0}, {0, 0, 1, 3, -7},
            {0, 3, 1, 2, 0}, {0, -1, 1, 0, -7}, {0, 0, 1, -1, -7}, {0, Bounds.MAX, 1, 0, -7},
            {0, 0, 1, Bounds.MAX, -7}, {0, Bounds.MIN, 1, 0, -7}, {0, 0, 1, Bounds.MIN, -7}, {2, 0, 2, 0, 0},
            {2, 1, 2, 0, -7}, {2, 0, 2, 1, -7}, {0, 3, 2, 0, 0}, {2, 0, 0, 3, 0}};
        for (int[] r : rows) {
            is(86, "paste(" + r[0] + ", " + r[1] + ", " + r[2] + ", " + r[3] + ", 0)",
                    x.paste(r[0], r[1], r[2], r[3], 0), r[4]);
        }
        rowIs(86, "nothing is put", x, 0, 2, 5, 4, 3);
        rowIs(86, "nothing is put", x, 1, 2, 2, 1);
    }

    private static void pastesThatFit() {
        LehrBelt x = withRow(0, 2, 5, 4, 3);
        fill(x, 1, 2, 2, 1);
        is(86, "paste of the last one to the last one", x.paste(0, 2, 1, 1, 1), 0);
        rowIs(86, "the last one", x, 1, 2, 2, 3);
        is(86, "paste of the last two to all", x.paste(0, 1, 1, 0, 2), 0);
        rowIs(86, "all", x, 1, 2, 4, 3);
        rowIs(86, "where they were they stay", x, 0, 2, 5, 4, 3);
        is(86, "paste of all", x.paste(1, 0, 0, 0, 2), 0);
        rowIs(86, "those beyond stay", x, 0, 2, 4, 3, 3);
        for (int width = 0; width < 4; width++) {
            LehrBelt sixty = Bounds.belt(TELLING);
            sixty.row(0, width, 60);
            sixty.row(1, width, 60);
            sixty.write(0, 0, 5);
            sixty.write(0, 59, 4);
            is(86, "paste of sixty by width " + width, sixty.paste(0, 0, 1, 0, 60), 0);
            is(86, "the first of sixty", read(sixty, 1, 0, width), 5);
            is(86, "the last of sixty", read(sixty, 1, 59, width), 4);
            is(86, "paste of sixty-one", sixty.paste(0, 0, 1, 0, 61), -7);
        }
    }

    /** "-7, and nothing happens: some are beyond their rows .., or a place or n is below 0". */
    private static void pastesBeyond() {
        int[][] rows = {{0, 1, 3}, {1, 0, 3}, {0, 0, 4}, {3, 0, 1}, {0, 3, 1}, {-1, 0, 1}, {0, -1, 1}, {-1, -1, 2},
            {0, 0, -1}, {1, 1, -1}, {3, 3, -3}, {0, 0, Bounds.MIN}, {0, 0, Bounds.MAX}, {1, 1, Bounds.MAX},
            {Bounds.MAX, 0, 1}, {0, Bounds.MAX, 1}, {Bounds.MAX, Bounds.MAX, Bounds.MAX}, {Bounds.MIN, 0, 1},
            {0, Bounds.MIN, 1}, {Bounds.MIN, Bounds.MIN, Bounds.MIN}, {2, 0, 2}, {0, 2, 2}};
        for (int[] r : rows) {
            LehrBelt x = withRow(0, 2, 5, 4, 3);
            fill(x, 1, 2, 2, 1, 0);
            String call = "paste(0, " + r[0] + ", 1, " + r[1] + ", " + r[2] + ")";
            is(86, call, x.paste(0, r[0], 1, r[1], r[2]), -7);
            rowIs(86, call + ": nothing happens", x, 1, 2, 2, 1, 0);
            is(86, "on its own row " + call, x.paste(0, r[0], 0, r[1], r[2]), -7);
            rowIs(86, call + ": nothing happens", x, 0, 2, 5, 4, 3);
        }
    }

    /** -2, -6, -8, -7, in this order. */
    private static void pastesOrder() {
        LehrBelt x = withRow(0, 2, 5, 4, 3);
        x.row(1, 1, 3);
        for (int slot : NO_SLOTS) {
            is(86, "paste from " + slot, x.paste(slot, 0, 0, 0, 0), -2);
            is(86, "paste to " + slot, x.paste(0, 0, slot, 0, 0), -2);
            is(86, "paste from " + slot + ": -2 ahead of -6", x.paste(slot, 0, 2, 0, 0), -2);
            is(86, "paste to " + slot + ": -2 ahead of -6", x.paste(2, 0, slot, 0, -1), -2);
        }
        is(86, "paste from nothing", x.paste(2, 0, 0, 0, 0), -6);
        is(86, "paste to nothing", x.paste(0, 0, 2, 0, 0), -6);
        is(86, "paste of nothing to itself", x.paste(2, 0, 2, 0, 0), -6);
        is(86, "paste to nothing: -6 ahead of -7", x.paste(0, 9, 2, 0, 1), -6);
        is(86, "paste between widths", x.paste(0, 0, 1, 0, 1), -8);
        is(86, "paste of none between widths", x.paste(0, 0, 1, 0, 0), -8);
        is(86, "paste between widths: -8 ahead of -7", x.paste(1, -1, 0, 9, -1), -8);
        rowIs(86, "nothing happened", x, 0, 2, 5, 4, 3);
        rowIs(86, "nothing happened", x, 1, 1, 0, 0, 0);
        for (int from = 0; from < 4; from++) {
            for (int to = 0; to < 4; to++) {
                x.row(0, from, 1);
                x.row(1, to, 1);
                is(86, "paste from width " + from + " to " + to, x.paste(0, 0, 1, 0, 1), from == to ? 0 : -8);
            }
        }
    }

    /** "(or its own), from one on, as they were": onto places that are read, too. */
    private static void pastesAsTheyWere() {
        for (int width = 0; width < 4; width++) {
            LehrBelt up = withRow(0, width, 5, 4, 3, 2, 1);
            is(86, "paste up by one", up.paste(0, 0, 0, 1, 4), 0);
            rowIs(86, "up, as they were", up, 0, width, 5, 5, 4, 3, 2);
            LehrBelt down = withRow(0, width, 5, 4, 3, 2, 1);
            is(86, "paste down by one", down.paste(0, 1, 0, 0, 4), 0);
            rowIs(86, "down, as they were", down, 0, width, 4, 3, 2, 1, 1);
            LehrBelt same = withRow(0, width, 5, 4, 3, 2, 1);
            is(86, "paste onto itself", same.paste(0, 0, 0, 0, 5), 0);
            rowIs(86, "as it was", same, 0, width, 5, 4, 3, 2, 1);
        }
    }

    // ---- promises 61 to 65: what is refused

    private static final String SEEN = Bounds.head(3, 0, 0, 1, 0) + Bounds.zones(100, 50)
            + Bounds.piece(200, 2, 300, 0) + Bounds.piece(7, 2, 300, 3);

    /** Each of the five answers this. */
    private static void seen(String what, LehrBelt x, int slot, int answer) {
        is(61, "airs(" + slot + ", 0): " + what, x.airs(slot, 0), answer);
        is(62, "low(" + slot + ", 0): " + what, x.low(slot, 0), answer);
        is(63, "high(" + slot + ", 0): " + what, x.high(slot, 0), answer);
        is(64, "thicks(" + slot + ", 0): " + what, x.thicks(slot, 0), answer);
        is(65, "laws(" + slot + "): " + what, x.laws(slot), answer);
    }

    private static void seenRefused() {
        LehrBelt x = Bounds.belt(SEEN);
        for (int slot : NO_SLOTS) {
            seen("no such slot", x, slot, -2);
        }
        for (int slot = 0; slot <= 3; slot++) {
            seen("it has nothing", x, slot, -6);
            x.row(slot, 2, 0);
            Bounds.holds(61, "airs(" + slot + ", 0): it has something", x.airs(slot, 0) >= 0);
            Bounds.holds(65, "laws(" + slot + "): it has something", x.laws(slot) >= 0);
        }
        for (int n : new int[] {-1, 2, 10, Bounds.MIN, Bounds.MAX}) {
            is(61, "airs(0, " + n + "): no such zone", x.airs(0, n), -2);
            is(62, "low(0, " + n + "): no such zone", x.low(0, n), -2);
            is(63, "high(0, " + n + "): no such zone", x.high(0, n), -2);
            is(64, "thicks(0, " + n + "): no such piece", x.thicks(0, n), -2);
        }
        is(61, "airs(0, 1): the last zone", x.airs(0, 1), 601);
        is(64, "thicks(0, 1): the last piece", x.thicks(0, 1), 1022);
        LehrBelt bare = Bounds.belt(Bounds.BARE);
        bare.row(0, 2, 0);
        is(61, "airs(0, 0) without zones", bare.airs(0, 0), -2);
        is(64, "thicks(0, 0) without pieces", bare.thicks(0, 0), -2);
        is(65, "laws(0) without zones and pieces", bare.laws(0), 15);
        bare.row(0, 2, 3);
        is(65, "laws(0) of piece 0, without pieces", bare.laws(0), -2);
        LehrBelt none = new LehrBelt();
        none.row(0, 2, 0);
        seen("no lehr", none, 0, -2);
    }

    /** "-2 .. is asked ahead of -5, -6", but for the row's numbers, which are asked last. */
    private static void seenInOrder() {
        LehrBelt x = Bounds.belt(SEEN);
        is(61, "airs(0, 2): -2 ahead of -6", x.airs(0, 2), -2);
        is(62, "low(0, 2): -2 ahead of -6", x.low(0, 2), -2);
        is(63, "high(0, 2): -2 ahead of -6", x.high(0, 2), -2);
        is(64, "thicks(0, 2): -2 ahead of -6", x.thicks(0, 2), -2);
        is(65, "laws(0): -2 (no lehr) ahead of -6", new LehrBelt().laws(0), -2);
        is(65, "laws(0): -6", x.laws(0), -6);
    }

    private static void seenNumbers() {
        LehrBelt x = Bounds.belt(SEEN);
        long[][] none = {{-1, 0, 0}, {2, 0, 0}, {6, 0, 0}, {0, -1, 0}, {0, 4, 0}, {0, 14, 0}, {0, 0, -1},
            {0, 0, 100_001}, {0, 0, Bounds.MAX}, {0, 0, Bounds.MIN}, {Bounds.MAX, 0, 0}, {Bounds.MIN, 0, 0},
            {0, Bounds.MAX, 0}, {0, Bounds.MIN, 0}};
        for (long[] three : none) {
            fill(x, 0, 2, three);
            seen(three[0] + ", " + three[1] + ", " + three[2], x, 0, -2);
            // behind one that is fine, and ahead of one
            fill(x, 0, 2, 0, 0, 200, three[0], three[1], three[2]);
            seen("behind 0, 0, 200", x, 0, -2);
            fill(x, 0, 2, three[0], three[1], three[2], 0, 0, 200);
            seen("ahead of 0, 0, 200", x, 0, -2);
        }
        long[][] such = {{0, 0, 0}, {1, 3, 0}, {0, 3, 100_000}, {1, 0, 100_000}};
        for (long[] three : such) {
            fill(x, 0, 2, three);
            is(61, "airs(0, 0): there are such, none of them felt", x.airs(0, 0), 0);
            is(62, "low(0, 0): there is none", x.low(0, 0), -1);
            is(63, "high(0, 0): there is none", x.high(0, 0), -1);
            is(64, "thicks(0, 0): none", x.thicks(0, 0), 0);
            is(65, "laws(0): none", x.laws(0), 0);
        }
        fill(x, 0, 2, 1, 3, 7);
        is(61, "airs(0, 0): the last piece in the last step", x.airs(0, 0), 601);
    }

    /** Numbers of eight bytes are not cut on their way. */
    private static void seenWideNumbers() {
        long wide = 1L << 32;
        long[][] none = {{wide, 0, 200}, {0, wide, 200}, {0, 0, wide + 200}, {-wide, 0, 200}, {0, -wide, 200},
            {0, 0, 200 - wide}, {Long.MIN_VALUE, 0, 200}, {0, Long.MIN_VALUE, 200}, {0, 0, Long.MIN_VALUE},
            {Long.MAX_VALUE, 0, 200}, {0, Long.MAX_VALUE, 200}, {0, 0, Long.MAX_VALUE}};
        LehrBelt x = Bounds.belt(SEEN);
        for (long[] three : none) {
            fill(x, 0, 3, three);
            seen(three[0] + ", " + three[1] + ", " + three[2], x, 0, -2);
        }
        fill(x, 0, 3, 0, 0, 200);
        is(61, "airs(0, 0) by eight bytes", x.airs(0, 0), 601);
    }

    private static void seenNotThreeEach() {
        LehrBelt x = Bounds.belt(Bounds.head(3, 0, 0, 1, 0), Bounds.zones(0), Bounds.piece(0, 2, 300, 0));
        for (int n = 0; n <= 60; n++) {
            x.row(0, 2, n);
            is(61, "airs(0, 0) of " + n + " numbers", x.airs(0, 0), n % 3 == 0 ? 601 : -2);
            is(62, "low(0, 0) of " + n + " numbers", x.low(0, 0), n % 3 == 0 ? 0 : -2);
            is(63, "high(0, 0) of " + n + " numbers", x.high(0, 0), n % 3 == 0 ? 600 : -2);
            is(64, "thicks(0, 0) of " + n + " numbers", x.thicks(0, 0), n % 3 == 0 ? 1022 : -2);
            is(65, "laws(0) of " + n + " numbers", x.laws(0), n % 3 == 0 ? 15 : -2);
        }
    }

    /** No numbers at all, and twenty times three. */
    private static void seenNoneAndTwenty() {
        LehrBelt x = Bounds.belt(SEEN);
        x.row(0, 0, 0);
        is(61, "airs(0, 0) of no numbers", x.airs(0, 0), 601);
        is(64, "thicks(0, 0) of no numbers", x.thicks(0, 0), 1022);
        is(65, "laws(0) of no numbers", x.laws(0), 15);
        long[] twenty = new long[60];
        for (int i = 0; i < 60; i += 3) {
            twenty[i + 1] = 1;
            twenty[i + 2] = 150;
        }
        fill(x, 0, 2, twenty);
        is(61, "airs(0, 0) of twenty", x.airs(0, 0), 2);
        x.write(0, 59, 151);
        is(61, "airs(0, 0): the last of twenty is another", x.airs(0, 0), 0);
        x.write(0, 58, 0);
        x.write(0, 59, 200);
        is(61, "airs(0, 0): the last of twenty is in another step", x.airs(0, 0), 2);
    }

    // ---- promises 61 to 65: what there can have been

    /** Each of a row's threes counts, of whichever piece and step, in whichever order they stand. */
    private static void airsOfSeveral() {
        String text = Bounds.head(3, 0, 0, 1, 0) + Bounds.zones(100, 50) + Bounds.piece(200, 2, 300, 0)
                + Bounds.piece(300, 2, 300, 1);
        long[][] rows = {{0, 1, 150, 1, 2, 200}, {1, 2, 200, 0, 1, 150}, {0, 1, 150, 1, 2, 200, 0, 2, 100},
            {0, 3, 100, 0, 1, 150, 1, 3, 125}, {0, 1, 150, 1, 2, 201}, {0, 1, 151, 1, 2, 200},
            {0, 1, 150, 1, 2, 200, 0, 2, 101}, {0, 3, 101, 0, 1, 150}, {1, 3, 125, 0, 0, 200}, {0, 0, 200, 1, 3, 125}};
        int[] airs = {2, 2, 2, 2, 0, 0, 0, 0, 4, 4};
        for (int i = 0; i < rows.length; i++) {
            LehrBelt x = Bounds.belt(text);
            fill(x, 0, 2, rows[i]);
            is(61, "airs(0, 0) by row " + i, x.airs(0, 0), airs[i]);
            LehrBelt y = Bounds.belt(text);
            fill(y, 0, 3, rows[i]);
            is(65, "laws(0) by row " + i, y.laws(0), airs[i] == 0 ? 0 : 5);
        }
    }

    /** Asked as the first of an object, and again when an act has come. */
    private static void lowAndHighAlone() {
        String text = Bounds.head(1, 0, 0, 1, 0) + Bounds.zones(300) + Bounds.piece(200, 2, 300, 0);
        LehrBelt low = Bounds.belt(text);
        fill(low, 0, 2, 0, 1, 250);
        is(62, "low(0, 0) alone", low.low(0, 0), 300);
        low.fires(0, 10, 0);
        is(62, "low(0, 0) with a fire", low.low(0, 0), 290);
        LehrBelt high = Bounds.belt(text);
        fill(high, 0, 2, 0, 1, 250);
        is(63, "high(0, 0) alone", high.high(0, 0), 301);
        high.fires(0, 10, 0);
        is(63, "high(0, 0) with a fire", high.high(0, 0), 291);
    }

    /** By law 2 pieces that the row does not tell of are felt, too. */
    private static void seenByTheMean() {
        String text = Bounds.head(3, 2, 0, 4, 0) + Bounds.zones(100) + Bounds.piece(200, 2, 300, 0)
                + Bounds.piece(400, 1, 0, 0);
        LehrBelt x = Bounds.belt(text);
        fill(x, 0, 2, 0, 1, 225);
        is(61, "airs(0, 0) by the mean", x.airs(0, 0), 4);
        is(62, "low(0, 0) by the mean", x.low(0, 0), 100);
        is(63, "high(0, 0) by the mean", x.high(0, 0), 103);
        LehrBelt beside = Bounds.belt(text);
        // it is 183 (beside 219, mean 159) in step 3, or 197 beside one that cracked at 275 (mean 187)
        fill(beside, 0, 2, 0, 3, 183);
        is(64, "thicks(0, 1): only thick 1 does not crack", beside.thicks(0, 1), 2);
        fill(beside, 0, 2, 0, 3, 197);
        is(64, "thicks(0, 1): all that crack", beside.thicks(0, 1), 1020);
    }

    private static void airsAtTheirEnds() {
        LehrBelt x = Bounds.belt(Bounds.head(1, 0, 0, 1, 0), Bounds.zones(300), Bounds.piece(200, 2, 300, 0));
        int[][] rows = {{100, 1, 0, 0}, {101, 2, 1, 2}, {200, 3, 199, 201}, {399, 2, 598, 599}, {400, 1, 600, 600},
            {99, 0, -1, -1}, {401, 0, -1, -1}};
        for (int[] r : rows) {
            fill(x, 0, 2, 0, 1, r[0]);
            is(61, "airs(0, 0) by skin " + r[0], x.airs(0, 0), r[1]);
            is(62, "low(0, 0) by skin " + r[0], x.low(0, 0), r[2]);
            is(63, "high(0, 0) by skin " + r[0], x.high(0, 0), r[3]);
        }
        is(61, "zone(0) stays", x.zone(0), 300);
        is(61, "skin(0, 1) stays", x.skin(0, 1), 250);
        fill(x, 0, 2, 0, 1, 250);
        is(61, "airs(0, 0): as it is now", x.airs(0, 0), 2);
    }

    /** "all else (acts, too) as now": a gust leaves 0 of all heats up to 80. */
    private static void airsWithActs() {
        LehrBelt x = Bounds.belt(Bounds.head(1, 0, 0, 1, 0), Bounds.zones(300), Bounds.piece(200, 2, 300, 0));
        x.gusts(0);
        fill(x, 0, 2, 0, 1, 100);
        is(61, "airs(0, 0) in a gust", x.airs(0, 0), 81);
        is(62, "low(0, 0) in a gust", x.low(0, 0), 0);
        is(63, "high(0, 0) in a gust", x.high(0, 0), 80);
        x.fires(0, 80, 0);
        is(61, "airs(0, 0) in a gust, and a fire", x.airs(0, 0), 1);
        x.fires(0, 1, 0);
        is(61, "airs(0, 0) by a fire more", x.airs(0, 0), 0);
        is(62, "low(0, 0) by a fire more", x.low(0, 0), -1);
        x.anew();
        x.fires(0, 200, 0);
        fill(x, 0, 2, 0, 1, 500);
        is(61, "airs(0, 0): 600 and what it is hotter", x.airs(0, 0), 1);
        is(63, "high(0, 0): 600 and what it is hotter", x.high(0, 0), 600);
        is(61, "count(7) stays", x.count(7), 1);
    }

    /** Ahead of its coming, and out, a piece feels no air; one zone ahead of it does not matter. */
    private static void airsBeforeAndAfter() {
        LehrBelt x = Bounds.belt(Bounds.head(4, 0, 0, 1, 0), Bounds.zones(100, 50), Bounds.piece(200, 2, 300, 1));
        int[] skin = {200, 200, 150, 100, 100};
        int[] airs0 = {601, 601, 2, 4, 4};
        int[] airs1 = {601, 601, 601, 2, 2};
        for (int s = 0; s <= 4; s++) {
            fill(x, 0, 2, 0, s, skin[s]);
            is(61, "airs(0, 0) by step " + s, x.airs(0, 0), airs0[s]);
            is(61, "airs(0, 1) by step " + s, x.airs(0, 1), airs1[s]);
        }
    }

    /** "thick (1 .. 9) that a PIECE can have had .., as bits". */
    private static void thicksSeen() {
        // strain in step 1 by thick: 0, 50, 67, 75, 80, 84, 86, 88, 89; it goes on falling if it bears that
        int[] strain = {0, 50, 67, 75, 80, 84, 86, 88, 89};
        for (int thick = 1; thick <= 9; thick++) {
            LehrBelt x = Bounds.belt(Bounds.head(2, 0, 0, 2, 0), Bounds.zones(0),
                    Bounds.piece(200, 5, strain[thick - 1], 0), Bounds.piece(9, 9, 300, 14));
            fill(x, 0, 2, 0, 2, 50);
            is(64, "thicks(0, 0): up to " + thick, x.thicks(0, 0), (2 << thick) - 2);
            is(64, "thicks(0, 1): it is not felt", x.thicks(0, 1), thick >= 5 ? 1022 : 0);
            fill(x, 0, 2, 0, 2, 100);
            is(64, "thicks(0, 0): above " + thick, x.thicks(0, 0), 1022 & -(2 << thick));
            fill(x, 0, 2, 0, 1, 99);
            is(64, "thicks(0, 0): none", x.thicks(0, 0), 0);
            is(64, "piece(0, 1) stays", x.piece(0, 1), 5);
        }
    }

    private static void lawsSeen() {
        for (int told = 0; told < 4; told++) {
            LehrBelt x = Bounds.belt(Bounds.head(1, told, 0, 2, 0), Bounds.zones(0), Bounds.piece(200, 2, 300, 0),
                    Bounds.piece(20, 2, 300, 0));
            int[][] rows = {{0, 0, 200, 15}, {0, 1, 100, 1}, {0, 1, 140, 2}, {0, 1, 105, 4}, {0, 1, 134, 8},
                {0, 1, 133, 0}, {1, 1, 10, 3}, {1, 1, 60, 4}, {1, 1, 14, 8}};
            for (int[] r : rows) {
                fill(x, 0, 2, r[0], r[1], r[2]);
                is(65, "laws(0) by " + r[0] + ", " + r[1] + ", " + r[2] + ", told " + told, x.laws(0), r[3]);
            }
            is(65, "count(1) stays", x.count(1), told);
        }
    }
}
