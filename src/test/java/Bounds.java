/** What the tests of boundary cases share: texts made of parts, and numbers that a call must refuse. */
final class Bounds {
    static final int MIN = Integer.MIN_VALUE;
    static final int MAX = Integer.MAX_VALUE;

    /** Seven zones, six pieces and fourteen steps: as much as there can be. */
    static final String FULL = head(14, 0, 5, 2, 300) + zones(600, 500, 400, 300, 200, 100, 0)
            + piece(600, 2, 300, 0) + piece(500, 3, 300, 1) + piece(400, 4, 300, 2)
            + piece(300, 5, 300, 3) + piece(200, 6, 300, 4) + piece(100, 7, 300, 14);

    /** Two zones, one piece, one step: little. */
    static final String SMALL = head(1, 0, 5, 1, 300) + zones(200, 100) + piece(200, 2, 300, 0);

    /** A lehr without zones and pieces. */
    static final String BARE = head(2, 0, 5, 1, 300);

    interface Call {
        long of(LehrBelt x);
    }

    interface CallOfOne {
        long of(LehrBelt x, int n);
    }

    private Bounds() { }

    static void is(int promise, String what, long got, long want) {
        Checks.is("promise " + promise + ": " + what, got, want);
    }

    static void holds(int promise, String what, boolean holds) {
        Checks.holds("promise " + promise + ": " + what, holds);
    }

    // ---- texts

    static String head(int steps, int law, int odds, int pace, int set) {
        return "lehr steps " + steps + " law " + law + " odds " + odds + " pace " + pace + " set " + set + ";";
    }

    static String zones(int... airs) {
        StringBuilder text = new StringBuilder();
        for (int air : airs) {
            text.append("zone ").append(air).append(';');
        }
        return text.toString();
    }

    static String piece(int heat, int thick, int bears, int at) {
        return "piece heat " + heat + " thick " + thick + " bears " + bears + " at " + at + ";";
    }

    static LehrBelt belt(String... parts) {
        return Checks.told(String.join("", parts));
    }

    // ---- what is refused

    /** Refused on a new object, and where a text without lines took the lehr away. */
    static void needsLehr(int promise, String name, Call call, long refusal) {
        is(promise, name + " of a new object", call.of(new LehrBelt()), refusal);
        LehrBelt gone = belt(FULL);
        gone.lehr();
        is(promise, name + " where the lehr was taken away", call.of(gone), refusal);
        holds(promise, name + " of a full lehr", call.of(belt(FULL)) != refusal);
        holds(promise, name + " of a bare lehr", call.of(belt(BARE)) != refusal);
    }

    /** What is refused without a lehr, and also in one that has neither zones nor pieces. */
    private static void needsTelling(int promise, String name, CallOfOne call, long refusal) {
        is(promise, name + "(0) of a new object", call.of(new LehrBelt(), 0), refusal);
        LehrBelt gone = belt(FULL);
        gone.lehr();
        is(promise, name + "(0) where the lehr was taken away", call.of(gone, 0), refusal);
        is(promise, name + "(0) of a bare lehr", call.of(belt(BARE), 0), refusal);
    }

    private static void needsBetween(int promise, String name, CallOfOne call, long refusal, String text, int least,
            int most) {
        for (int n : new int[] {MIN, least - 1, most + 1, MAX}) {
            is(promise, name + "(" + n + ")", call.of(belt(text), n), refusal);
        }
        for (int n : new int[] {least, most}) {
            holds(promise, name + "(" + n + ") is none that is refused", call.of(belt(text), n) != refusal);
        }
    }

    /** A number with bounds that do not depend on the lehr. */
    static void needsNumber(int promise, String name, CallOfOne call, long refusal, int least, int most) {
        needsBetween(promise, name, call, refusal, FULL, least, most);
    }

    static void needsPiece(int promise, String name, CallOfOne call, long refusal) {
        needsTelling(promise, name, call, refusal);
        needsBetween(promise, name + " by its piece", call, refusal, FULL, 0, 5);
        needsBetween(promise, name + " by its piece, of one", call, refusal, SMALL, 0, 0);
    }

    static void needsZone(int promise, String name, CallOfOne call, long refusal) {
        needsTelling(promise, name, call, refusal);
        needsBetween(promise, name + " by its zone", call, refusal, FULL, 0, 6);
        needsBetween(promise, name + " by its zone, of two", call, refusal, SMALL, 0, 1);
        is(promise, name + " of 10, which tells OUT elsewhere", call.of(belt(FULL), 10), refusal);
    }

    static void needsStep(int promise, String name, CallOfOne call, long refusal) {
        is(promise, name + "(0) of a new object", call.of(new LehrBelt(), 0), refusal);
        LehrBelt gone = belt(FULL);
        gone.lehr();
        is(promise, name + "(0) where the lehr was taken away", call.of(gone, 0), refusal);
        needsBetween(promise, name + " by its step", call, refusal, FULL, 0, 14);
        needsBetween(promise, name + " by its step, of two", call, refusal, SMALL, 0, 1);
    }

    static void needsStepAhead(int promise, String name, CallOfOne call, long refusal) {
        is(promise, name + "(0) of a new object", call.of(new LehrBelt(), 0), refusal);
        needsBetween(promise, name + " by its step ahead", call, refusal, FULL, 0, 13);
        needsBetween(promise, name + " by its step ahead, of one", call, refusal, SMALL, 0, 0);
    }

    /** What of a fraction, a player or a draught: 0 and 1 alone. */
    static void needsPart(int promise, String name, CallOfOne call, long refusal) {
        needsBetween(promise, name + " by what", call, refusal, FULL, 0, 1);
    }
}
