/** The document's boundary cases of where pieces are and what becomes of them: terms II and III, promises 8 to 51. */
public final class CourseBoundaryTests {
    /** A piece of 200 that is strained by 50, 50, 38 and 25 in air of 0: skin 100, 50, 25, 13, core 150, 100, 63, 38. */
    private static final String COLD = Bounds.zones(0);

    private CourseBoundaryTests() { }

    public static void main(String[] args) {
        whatThereIsNot();
        airBound();
        airInGusts();
        airFromAStepOn();
        wherePiecesAre();
        withoutZones();
        skinsCut();
        skinsByTheMean();
        skinsAhead();
        coresCut();
        strainBothWays();
        peaks();
        settings();
        cracksByStrain();
        cracksByFrozen();
        stayingBehindACrack();
        wholeAndGood();
        mostInAStep();
        togetherInAStep();
        worstSteps();
        soreZones();
        tenseAndWarm();
        coolAndStill();
        pairsAndCrowds();
        ovens();
        fallsAndCliffs();
        leastSkins();
        chillsAndDrops();
        gapsByHalf();
        comingAndCracked();
        tallies();
        zonesInUse();
        stiffCores();
        Checks.close("CourseBoundaryTests");
    }

    private static void is(int promise, String what, long got, long want) {
        Bounds.is(promise, what, got, want);
    }

    /** A lehr of law 0, no odds and set 0. */
    private static String head(int steps, int pace) {
        return Bounds.head(steps, 0, 0, pace, 0);
    }

    // ---- -2 and its like, of each promise

    private static void whatThereIsNot() {
        Bounds.needsZone(8, "air", (x, z) -> x.air(z, 0), -2);
        Bounds.needsStep(8, "air", (x, s) -> x.air(0, s), -2);
        Bounds.needsPiece(9, "where", (x, p) -> x.where(p, 0), -2);
        Bounds.needsStep(9, "where", (x, s) -> x.where(0, s), -2);
        Bounds.needsZone(10, "inside", (x, z) -> x.inside(z, 0), -2);
        Bounds.needsStep(10, "inside", (x, s) -> x.inside(0, s), -2);
        Bounds.needsStep(11, "out", LehrBelt::out, -2);
        Bounds.needsPiece(12, "leaves", LehrBelt::leaves, -2);
        Bounds.needsPiece(13, "skin", (x, p) -> x.skin(p, 0), -2);
        Bounds.needsStep(13, "skin", (x, s) -> x.skin(0, s), -2);
        Bounds.needsPiece(14, "core", (x, p) -> x.core(p, 0), -2);
        Bounds.needsStep(14, "core", (x, s) -> x.core(0, s), -2);
        Bounds.needsPiece(15, "strain", (x, p) -> x.strain(p, 0), -2);
        Bounds.needsStep(15, "strain", (x, s) -> x.strain(0, s), -2);
        Bounds.needsPiece(16, "peak", LehrBelt::peak, -2);
        Bounds.needsPiece(17, "when", LehrBelt::when, -2);
        Bounds.needsPiece(18, "frozen", LehrBelt::frozen, -2);
        Bounds.needsPiece(19, "sets", LehrBelt::sets, -2);
        Bounds.needsPiece(20, "cracks", LehrBelt::cracks, -2);
        Bounds.needsPiece(21, "why", LehrBelt::why, -2);
        Bounds.needsStep(22, "whole", LehrBelt::whole, -2);
        Bounds.needsLehr(23, "sound", LehrBelt::sound, -2);
        Bounds.needsLehr(24, "good", LehrBelt::good, -2);
        Bounds.needsStep(25, "tight", LehrBelt::tight, -2);
        Bounds.needsStep(26, "hottest", LehrBelt::hottest, -2);
        Bounds.needsStep(27, "glow", LehrBelt::glow, -2);
        Bounds.needsLehr(28, "worst", LehrBelt::worst, -2);
        Bounds.needsLehr(29, "sore", LehrBelt::sore, -2);
        whatThereIsNotEither();
    }

    private static void whatThereIsNotEither() {
        Bounds.needsPiece(30, "tense", LehrBelt::tense, -2);
        Bounds.needsPiece(31, "warms", LehrBelt::warms, -2);
        Bounds.needsPiece(32, "cool", (x, p) -> x.cool(p, 0), -2);
        Bounds.needsNumber(32, "cool by n", (x, n) -> x.cool(5, n), -2, 0, 600);
        Bounds.needsPiece(33, "still", LehrBelt::still, -2);
        Bounds.needsStep(34, "pairs", LehrBelt::pairs, -2);
        Bounds.needsLehr(35, "crowd", LehrBelt::crowd, -2);
        Bounds.needsStep(36, "oven", LehrBelt::oven, -2);
        Bounds.needsStep(37, "fall", (x, s) -> x.fall(0, s), -10_000);
        Bounds.needsNumber(37, "fall: there is a next one", (x, z) -> x.fall(z, 0), -10_000, 0, 5);
        Bounds.needsStep(38, "cliff", LehrBelt::cliff, -2);
        Bounds.needsPiece(39, "least", LehrBelt::least, -2);
        Bounds.needsPiece(40, "chill", LehrBelt::chill, -2);
        Bounds.needsPiece(41, "drop", (x, p) -> x.drop(p, 0), -100_000);
        Bounds.needsStepAhead(41, "drop", (x, s) -> x.drop(0, s), -100_000);
        Bounds.needsPiece(42, "gaps", LehrBelt::gaps, -2);
        Bounds.needsStep(43, "spread", LehrBelt::spread, -2);
        Bounds.needsStep(44, "coming", LehrBelt::coming, -2);
        Bounds.needsStep(45, "cracked", LehrBelt::cracked, -2);
        Bounds.needsStep(46, "kernel", LehrBelt::kernel, -2);
        Bounds.needsLehr(47, "tally", x -> x.tally(0), -2);
        Bounds.needsNumber(47, "tally by what", LehrBelt::tally, -2, 0, 2);
        Bounds.needsZone(48, "last", LehrBelt::last, -2);
        Bounds.needsZone(49, "busy", LehrBelt::busy, -2);
        Bounds.needsLehr(50, "idle", LehrBelt::idle, -2);
        Bounds.needsStep(51, "stiff", LehrBelt::stiff, -2);
    }

    // ---- promise 8

    /** "in a STEP with a GUST .. all that 80 less (once; 0 at least)"; "without bound". */
    private static void airBound() {
        LehrBelt x = Bounds.belt(head(3, 1), Bounds.zones(0, 79, 80, 81, 600));
        int[] told = {0, 79, 80, 81, 600};
        int[] less = {0, 0, 0, 1, 520};
        for (int times = 1; times <= 2; times++) {
            x.gusts(1);
            for (int z = 0; z < 5; z++) {
                is(8, "air(" + z + ", 0) ahead of a gust", x.air(z, 0), told[z]);
                is(8, "air(" + z + ", 1) in " + times + " gusts", x.air(z, 1), less[z]);
                is(8, "air(" + z + ", 2) behind a gust", x.air(z, 2), told[z]);
                is(8, "air(" + z + ", 3) behind a gust", x.air(z, 3), told[z]);
            }
        }
        x.fires(0, 79, 0);
        is(8, "air(0, 1): 79, less 80", x.air(0, 1), 0);
        x.fires(0, 1, 1);
        is(8, "air(0, 1): 80, less 80", x.air(0, 1), 0);
        x.fires(0, 1, 1);
        is(8, "air(0, 1): 81, less 80", x.air(0, 1), 1);
        for (int i = 5; i < 30; i++) {
            x.fires(4, 200, 0);
        }
        is(8, "air(4, 0): without bound", x.air(4, 0), 5600);
        is(8, "air(4, 1): without bound, a gust", x.air(4, 1), 5520);
        is(8, "air(3, 0): zones by themselves", x.air(3, 0), 81);
    }

    /** Gusts of several steps stand beside one another, also when a later act is taken back. */
    private static void airInGusts() {
        LehrBelt x = Bounds.belt(head(14, 1), Bounds.zones(100));
        x.gusts(0);
        x.gusts(13);
        x.gusts(2);
        for (int undone = 0; undone < 2; undone++) {
            for (int s = 0; s <= 14; s++) {
                boolean gust = s == 0 || s == 13 || s == 2 || s == 1 && undone == 0 && x.count(7) == 4;
                is(8, "air(0, " + s + ")", x.air(0, s), gust ? 20 : 100);
            }
            x.gusts(1);
            is(8, "air(0, 1) in another gust", x.air(0, 1), 20);
            x.undo();
        }
    }

    /** "what it is hotter from that STEP on or from one ahead". */
    private static void airFromAStepOn() {
        LehrBelt x = Bounds.belt(head(3, 1), Bounds.zones(10, 20));
        x.fires(0, 1, 0);
        x.fires(0, 20, 2);
        x.fires(0, 100, 3);
        int[] air = {11, 11, 31, 131};
        for (int s = 0; s <= 3; s++) {
            is(8, "air(0, " + s + ")", x.air(0, s), air[s]);
            is(8, "air(1, " + s + ")", x.air(1, s), 20);
        }
    }

    // ---- term II: promises 9 to 12, 44

    private static final int[][] WHERE = {{0, 0, 0, 0, 1, 1, 1, 1, 10, 10}, {-1, 0, 0, 0, 0, 1, 1, 1, 1, 10},
        {-1, -1, 0, 0, 0, 0, 1, 1, 1, 1}, {-1, -1, -1, -1, -1, -1, -1, -1, -1, 0},
        {-1, -1, -1, -1, -1, -1, -1, -1, -1, -1}, {0, 0, 0, 0, 1, 1, 1, 1, 10, 10}};

    private static int bitsWhere(int place, int step) {
        int bits = 0;
        for (int p = 0; p < WHERE.length; p++) {
            bits |= WHERE[p][step] == place ? 1 << p : 0;
        }
        return bits;
    }

    /** "It is in each ZONE for pace STEPS, one behind the other, then OUT", cracked or not (piece 5 cracks in 1). */
    private static void wherePiecesAre() {
        LehrBelt x = Bounds.belt(head(9, 4), Bounds.zones(100, 100), Bounds.piece(100, 1, 0, 0),
                Bounds.piece(100, 1, 0, 1), Bounds.piece(100, 1, 0, 2), Bounds.piece(100, 1, 0, 9),
                Bounds.piece(100, 1, 0, 10), Bounds.piece(600, 9, 0, 0));
        is(20, "cracks(5)", x.cracks(5), 1);
        for (int s = 0; s <= 9; s++) {
            for (int p = 0; p < 6; p++) {
                is(9, "where(" + p + ", " + s + ")", x.where(p, s), WHERE[p][s]);
            }
            is(10, "inside(0, " + s + ")", x.inside(0, s), bitsWhere(0, s));
            is(10, "inside(1, " + s + ")", x.inside(1, s), bitsWhere(1, s));
            is(11, "out(" + s + ")", x.out(s), bitsWhere(10, s));
        }
        int[] leaves = {8, 9, -1, -1, -1, 8};
        for (int p = 0; p < 6; p++) {
            is(12, "leaves(" + p + "): in the last step at the latest", x.leaves(p), leaves[p]);
        }
        int[] coming = {33, 2, 4, 0, 0, 0, 0, 0, 0, 8};
        for (int s = 0; s <= 9; s++) {
            is(44, "coming(" + s + ")", x.coming(s), coming[s]);
        }
        LehrBelt one = Bounds.belt(head(3, 1), Bounds.zones(1, 1), Bounds.piece(100, 1, 0, 0));
        is(9, "where(0, 0) by pace 1", one.where(0, 0), 0);
        is(9, "where(0, 1) by pace 1", one.where(0, 1), 1);
        is(9, "where(0, 2) by pace 1", one.where(0, 2), 10);
        is(12, "leaves(0) by pace 1", one.leaves(0), 2);
        LehrBelt six = Bounds.belt(head(1, 1), Bounds.zones(1), Bounds.piece(1, 1, 0, 0).repeat(6));
        is(10, "inside(0, 0): all", six.inside(0, 0), 63);
        is(10, "inside(0, 1): none", six.inside(0, 1), 0);
        is(11, "out(0): none", six.out(0), 0);
        is(11, "out(1): all", six.out(1), 63);
        is(44, "coming(0): all", six.coming(0), 63);
    }

    /** "OUT (without ZONES at once)". */
    private static void withoutZones() {
        LehrBelt x = Bounds.belt(Bounds.head(2, 2, 0, 1, 600), Bounds.piece(600, 9, 0, 0), Bounds.piece(7, 9, 0, 2),
                Bounds.piece(7, 9, 0, 3));
        is(9, "where(0, 0)", x.where(0, 0), 10);
        is(9, "where(1, 1)", x.where(1, 1), -1);
        is(9, "where(1, 2)", x.where(1, 2), 10);
        is(9, "where(2, 2)", x.where(2, 2), -1);
        is(12, "leaves(0)", x.leaves(0), 0);
        is(12, "leaves(1): in the last step", x.leaves(1), 2);
        is(12, "leaves(2): it does not come", x.leaves(2), -1);
        is(11, "out(0)", x.out(0), 1);
        is(11, "out(2)", x.out(2), 3);
        is(13, "skin(0, 2)", x.skin(0, 2), 600);
        is(14, "core(0, 2)", x.core(0, 2), 600);
        is(18, "frozen(0)", x.frozen(0), -1);
        is(20, "cracks(0): it is out first in 0, nothing is frozen", x.cracks(0), -1);
        is(23, "sound()", x.sound(), 7);
        is(24, "good(): not the one that does not come", x.good(), 3);
        is(8, "air(0, 0)", x.air(0, 0), -2);
        is(10, "inside(0, 0)", x.inside(0, 0), -2);
    }

    // ---- term III: promises 13 to 15

    private static LehrBelt single(int law, int air, int heat, int thick) {
        return Bounds.belt(Bounds.head(1, law, 0, 2, 0), Bounds.zones(air), Bounds.piece(heat, thick, 300, 0));
    }

    /** "by half of how far it is .. 60 at most .. by a third; all cut (towards 0)", from below and from above. */
    private static void skinsCut() {
        int[][] law0 = {{100, 100, 100}, {101, 100, 100}, {99, 100, 100}, {103, 100, 101}, {97, 100, 99},
            {600, 0, 300}, {0, 600, 300}};
        int[][] law1 = {{219, 100, 159}, {220, 100, 160}, {221, 100, 160}, {222, 100, 160}, {600, 0, 60},
            {100, 219, 160}, {100, 220, 160}, {100, 221, 161}, {100, 222, 162}, {0, 600, 540}, {101, 100, 100},
            {99, 100, 100}};
        int[][] law3 = {{100, 100, 100}, {102, 100, 100}, {98, 100, 100}, {103, 100, 101}, {97, 100, 99},
            {105, 100, 101}, {95, 100, 99}, {600, 0, 200}, {0, 600, 400}};
        int[][][] byLaw = {law0, law1, law0, law3};
        for (int law = 0; law < 4; law++) {
            for (int[] row : byLaw[law]) {
                is(13, "skin by law " + law + " from " + row[1] + " in " + row[0],
                        single(law, row[0], row[1], 9).skin(0, 1), row[2]);
            }
        }
    }

    /** "the mean (cut) of AIR and SKINS (of that STEP) of other PIECES (cracked ones, too) in its ZONE". */
    private static void skinsByTheMean() {
        // mean 100 (cut) of 100 and 101 for the one, 151 of 100 and 202 for the other
        LehrBelt two = Bounds.belt(Bounds.head(1, 2, 0, 2, 0), Bounds.zones(100), Bounds.piece(202, 1, 0, 0),
                Bounds.piece(101, 1, 0, 0));
        is(13, "skin(0, 1): the mean is cut", two.skin(0, 1), 151);
        is(13, "skin(1, 1): of that step", two.skin(1, 1), 126);
        // those that have not come, are in another zone, or are out, are not felt: pieces 1, 2 and 3 in step 2
        LehrBelt apart = Bounds.belt(Bounds.head(3, 2, 0, 1, 0), Bounds.zones(100, 100), Bounds.piece(400, 1, 0, 2),
                Bounds.piece(600, 1, 0, 3), Bounds.piece(600, 1, 0, 1), Bounds.piece(600, 1, 0, 0));
        is(13, "skin(0, 3): alone in zone 0", apart.skin(0, 3), 250);
        LehrBelt six = Bounds.belt(Bounds.head(1, 2, 0, 2, 0), Bounds.zones(600), Bounds.piece(0, 1, 0, 0).repeat(6));
        is(13, "skin(5, 1): mean 100 of 600 and five of 0", six.skin(5, 1), 50);
        // piece 1 cracks in 1 at 300 and is still felt there: mean 150, not 0
        LehrBelt cracked = Bounds.belt(Bounds.head(2, 2, 0, 2, 0), Bounds.zones(0), Bounds.piece(600, 1, 0, 1),
                Bounds.piece(600, 9, 0, 0));
        is(20, "cracks(1)", cracked.cracks(1), 1);
        is(13, "skin(1, 2)", cracked.skin(1, 2), 300);
        is(13, "skin(0, 2): a cracked one, too", cracked.skin(0, 2), 375);
    }

    /** "(ahead of that in which it comes its heat, too)". */
    private static void skinsAhead() {
        LehrBelt x = Bounds.belt(head(3, 4), COLD, Bounds.piece(200, 2, 300, 2), Bounds.piece(200, 2, 300, 3),
                Bounds.piece(200, 2, 300, 4));
        int[] skin = {200, 200, 200, 100};
        int[] core = {200, 200, 200, 150};
        for (int s = 0; s <= 3; s++) {
            is(13, "skin(0, " + s + ")", x.skin(0, s), skin[s]);
            is(14, "core(0, " + s + ")", x.core(0, s), core[s]);
            is(15, "strain(0, " + s + ")", x.strain(0, s), core[s] - skin[s]);
            is(13, "skin(1, " + s + "): it comes in the last step", x.skin(1, s), 200);
            is(14, "core(2, " + s + "): it never comes", x.core(2, s), 200);
        }
    }

    /** "CORE goes towards the new SKIN by how far it is by thick (1: wholly), cut likewise". */
    private static void coresCut() {
        int[][] rows = {{600, 0, 1, 300}, {600, 0, 2, 150}, {0, 600, 1, 300}, {0, 600, 9, 567}, {600, 0, 9, 33},
            {116, 100, 9, 100}, {118, 100, 9, 101}, {84, 100, 9, 100}, {82, 100, 9, 99}, {102, 100, 2, 100},
            {104, 100, 2, 101}, {98, 100, 2, 100}, {96, 100, 2, 99}, {100, 100, 1, 100}};
        for (int[] row : rows) {
            is(14, "core by thick " + row[2] + " from " + row[1] + " in " + row[0],
                    single(0, row[0], row[1], row[2]).core(0, 1), row[3]);
        }
    }

    private static void strainBothWays() {
        is(15, "strain: skin cooler", single(0, 0, 200, 2).strain(0, 1), 50);
        is(15, "strain: skin hotter", single(0, 200, 0, 2).strain(0, 1), 50);
        is(15, "strain: alike", single(0, 200, 0, 1).strain(0, 1), 0);
        is(15, "strain: at first", single(0, 200, 0, 9).strain(0, 0), 0);
    }

    // ---- promises 16 to 21

    private static void peaks() {
        LehrBelt x = Bounds.belt(head(4, 4), COLD, Bounds.piece(200, 2, 300, 0), Bounds.piece(200, 2, 300, 3),
                Bounds.piece(200, 2, 300, 4), Bounds.piece(200, 1, 0, 0), Bounds.piece(200, 2, 300, 14));
        int[] peak = {50, 50, 0, 0, 0};
        int[] when = {1, 4, 0, 0, 0};
        for (int p = 0; p < 5; p++) {
            is(16, "peak(" + p + ")", x.peak(p), peak[p]);
            is(17, "when(" + p + "): the first", x.when(p), when[p]);
        }
        is(15, "strain(0, 2): as much again", x.strain(0, 2), 50);
    }

    /** "CORE that was at set or above goes below it": at set it has not gone, below set all along it never does. */
    private static void settings() {
        int[] set = {0, 150, 151, 200, 201, 600};
        int[] frozen = {-1, -1, 50, 50, -1, -1};
        for (int i = 0; i < set.length; i++) {
            LehrBelt x = Bounds.belt(Bounds.head(1, 0, 0, 2, set[i]), COLD, Bounds.piece(200, 2, 300, 0));
            is(18, "frozen(0) by set " + set[i], x.frozen(0), frozen[i]);
            is(19, "sets(0) by set " + set[i], x.sets(0), frozen[i] < 0 ? -1 : 1);
        }
        LehrBelt last = Bounds.belt(Bounds.head(3, 0, 0, 3, 100), COLD, Bounds.piece(200, 2, 300, 0),
                Bounds.piece(200, 1, 300, 0), Bounds.piece(200, 1, 300, 9));
        is(18, "frozen(0): in the last step", last.frozen(0), 38);
        is(19, "sets(0): in the last step", last.sets(0), 3);
        is(18, "frozen(1): 0 is something", last.frozen(1), 0);
        is(19, "sets(1)", last.sets(1), 2);
        is(18, "frozen(2): it does not come", last.frozen(2), -1);
        is(19, "sets(2): it does not come", last.sets(2), -1);
        // the core goes below 160 in step 1 (150), is 250 in 2, and goes below it again in 4: 213, 151
        LehrBelt twice = Bounds.belt(Bounds.head(4, 0, 0, 1, 160), Bounds.zones(0, 600, 0, 0),
                Bounds.piece(200, 2, 300, 0));
        int[] core = {200, 150, 250, 213, 151};
        for (int s = 0; s <= 4; s++) {
            is(14, "core(0, " + s + ")", twice.core(0, s), core[s]);
        }
        is(18, "frozen(0): in place of what was", twice.frozen(0), 63);
        is(19, "sets(0): the latest", twice.sets(0), 4);
    }

    /** "It CRACKS in the first STEP in which its STRAIN is more than it bears". */
    private static void cracksByStrain() {
        int[] bears = {0, 49, 50, 51, 300};
        for (int i = 0; i < bears.length; i++) {
            for (int heat : new int[] {200, 0}) {
                LehrBelt x = Bounds.belt(head(3, 4), Bounds.zones(200 - heat), Bounds.piece(heat, 2, bears[i], 0));
                is(20, "cracks(0), from " + heat + " bearing " + bears[i], x.cracks(0), i < 2 ? 1 : -1);
                is(21, "why(0), from " + heat + " bearing " + bears[i], x.why(0), i < 2 ? 1 : 0);
                is(23, "sound(), from " + heat + " bearing " + bears[i], x.sound(), i < 2 ? 0 : 1);
            }
        }
        LehrBelt none = Bounds.belt(head(3, 4), COLD, Bounds.piece(200, 1, 0, 0), Bounds.piece(0, 9, 0, 0),
                Bounds.piece(200, 2, 0, 3), Bounds.piece(200, 2, 0, 2));
        is(20, "cracks(0): no strain is not more than 0", none.cracks(0), -1);
        is(20, "cracks(1): no strain is not more than 0", none.cracks(1), -1);
        is(20, "cracks(2): it comes in the last step", none.cracks(2), -1);
        is(20, "cracks(3): in the last step", none.cracks(3), 3);
        LehrBelt hot = Bounds.belt(head(1, 4), Bounds.zones(600), Bounds.piece(0, 2, 300, 0));
        for (int i = 0; i < 3; i++) {
            hot.fires(0, 200, 0);
        }
        is(15, "strain(0, 1)", hot.strain(0, 1), 300);
        is(20, "cracks(0): 300 by strain 300", hot.cracks(0), -1);
        hot.fires(0, 2, 0);
        is(15, "strain(0, 1)", hot.strain(0, 1), 301);
        is(20, "cracks(0): 300 by strain 301", hot.cracks(0), 1);
    }

    /** "or else in that in which it is OUT first, if what is FROZEN (nothing is not) is more than half (cut)". */
    private static void cracksByFrozen() {
        int[] bears = {49, 50, 99, 100, 101};
        int[] why = {1, 2, 2, 0, 0};
        for (int i = 0; i < bears.length; i++) {
            String piece = Bounds.piece(200, 2, bears[i], 0);
            LehrBelt x = Bounds.belt(Bounds.head(1, 0, 0, 1, 151), COLD, piece);
            is(21, "why(0): strain and frozen 50, bearing " + bears[i], x.why(0), why[i]);
            is(20, "cracks(0): strain and frozen 50, bearing " + bears[i], x.cracks(0), why[i] == 0 ? -1 : 1);
            LehrBelt unset = Bounds.belt(Bounds.head(1, 0, 0, 1, 150), COLD, piece);
            is(21, "why(0): nothing is frozen, bearing " + bears[i], unset.why(0), i == 0 ? 1 : 0);
            LehrBelt inside = Bounds.belt(Bounds.head(3, 0, 0, 4, 151), COLD, piece);
            is(21, "why(0): it is not out by the last step, bearing " + bears[i], inside.why(0), i == 0 ? 1 : 0);
            LehrBelt later = Bounds.belt(Bounds.head(4, 0, 0, 3, 151), COLD, piece);
            is(21, "why(0): frozen in 1, out in 3, bearing " + bears[i], later.why(0), why[i]);
            is(20, "cracks(0): frozen in 1, out in 3, bearing " + bears[i], later.cracks(0),
                    why[i] == 0 ? -1 : why[i] == 1 ? 1 : 3);
        }
        // frozen 1 is not more than half of 2, but more than half (cut) of 1
        for (int b = 0; b <= 3; b++) {
            LehrBelt x = Bounds.belt(Bounds.head(1, 0, 0, 1, 50), Bounds.zones(46), Bounds.piece(50, 2, b, 0));
            is(18, "frozen(0)", x.frozen(0), 1);
            is(21, "why(0): frozen 1, bearing " + b, x.why(0), b == 0 ? 1 : b == 1 ? 2 : 0);
        }
        LehrBelt nought = Bounds.belt(Bounds.head(1, 0, 0, 1, 50), Bounds.zones(0), Bounds.piece(50, 1, 0, 0));
        is(18, "frozen(0): 0 is frozen", nought.frozen(0), 0);
        is(21, "why(0): 0 is not more than half of 0", nought.why(0), 0);
    }

    /** "SKIN, CORE, FROZEN stay from then on (also when it is OUT)". */
    private static void stayingBehindACrack() {
        // it cracks in 1 ahead of setting, which would be in 3
        LehrBelt x = Bounds.belt(Bounds.head(4, 0, 0, 3, 100), COLD, Bounds.piece(200, 2, 10, 0));
        is(20, "cracks(0)", x.cracks(0), 1);
        is(18, "frozen(0): it set no more", x.frozen(0), -1);
        is(19, "sets(0): it set no more", x.sets(0), -1);
        for (int s = 1; s <= 4; s++) {
            is(13, "skin(0, " + s + ")", x.skin(0, s), 100);
            is(14, "core(0, " + s + ")", x.core(0, s), 150);
            is(15, "strain(0, " + s + ")", x.strain(0, s), 50);
        }
        // it sets in the very step in which it cracks; out in 3, more than half of 49 is frozen: it cracked before
        LehrBelt both = Bounds.belt(Bounds.head(4, 0, 0, 3, 151), COLD, Bounds.piece(200, 2, 49, 0));
        is(18, "frozen(0): in the step of the crack", both.frozen(0), 50);
        is(20, "cracks(0): once", both.cracks(0), 1);
        is(21, "why(0): by strain", both.why(0), 1);
        is(9, "where(0, 3): it goes on", both.where(0, 3), 10);
        LehrBelt out = Bounds.belt(Bounds.head(3, 0, 0, 1, 151), Bounds.zones(0), Bounds.piece(200, 2, 300, 0));
        for (int s = 1; s <= 3; s++) {
            is(13, "skin(0, " + s + ") of one that is out", out.skin(0, s), 100);
            is(14, "core(0, " + s + ") of one that is out", out.core(0, s), 150);
        }
        is(18, "frozen(0) of one that is out", out.frozen(0), 50);
    }

    // ---- promises 22 to 29

    private static void wholeAndGood() {
        // they crack in 1, 2 (by what is frozen, out), never, never (not out), never (does not come)
        LehrBelt x = Bounds.belt(Bounds.head(3, 0, 0, 2, 151), COLD, Bounds.piece(200, 2, 40, 0),
                Bounds.piece(200, 2, 60, 0), Bounds.piece(200, 2, 100, 0), Bounds.piece(200, 2, 300, 2),
                Bounds.piece(200, 2, 300, 4), Bounds.piece(200, 2, 300, 3));
        int[] whole = {7, 6, 12, 44};
        int[] cracked = {0, 1, 2, 0};
        for (int s = 0; s <= 3; s++) {
            is(22, "whole(" + s + ")", x.whole(s), whole[s]);
            is(45, "cracked(" + s + ")", x.cracked(s), cracked[s]);
        }
        is(23, "sound(): whether they come or not", x.sound(), 60);
        is(24, "good(): out and not cracked", x.good(), 4);
        LehrBelt none = Bounds.belt(Bounds.BARE);
        is(22, "whole(0) without pieces", none.whole(0), 0);
        is(23, "sound() without pieces", none.sound(), 0);
        is(24, "good() without pieces", none.good(), 0);
        LehrBelt last = Bounds.belt(head(1, 1), Bounds.zones(9), Bounds.piece(9, 1, 0, 0), Bounds.piece(9, 1, 0, 1));
        is(24, "good(): out in the last step", last.good(), 1);
        LehrBelt all = Bounds.belt(head(1, 1), Bounds.piece(9, 1, 0, 0).repeat(6));
        is(23, "sound(): all", all.sound(), 63);
        is(24, "good(): all", all.good(), 63);
        is(22, "whole(0): all", all.whole(0), 63);
    }

    /** "The PIECE, come, with most .. the first of several. NONE: none has come". */
    private static void mostInAStep() {
        // the hottest has not come till 2; in 1 piece 2 is strained by 50, 3 too; piece 4 never comes
        LehrBelt x = Bounds.belt(head(2, 4), COLD, Bounds.piece(600, 1, 0, 2), Bounds.piece(100, 1, 0, 0),
                Bounds.piece(200, 2, 300, 0), Bounds.piece(200, 2, 300, 0), Bounds.piece(600, 9, 0, 3));
        is(25, "tight(0): all alike, the first that has come", x.tight(0), 1);
        is(25, "tight(1): the first of two", x.tight(1), 2);
        is(26, "hottest(0): the first of two", x.hottest(0), 2);
        is(26, "hottest(2): it comes in this step", x.hottest(2), 0);
        is(46, "kernel(0): the first of two", x.kernel(0), 2);
        is(46, "kernel(1)", x.kernel(1), 2);
        is(46, "kernel(2): it comes in this step", x.kernel(2), 0);
        LehrBelt late = Bounds.belt(head(2, 4), COLD, Bounds.piece(9, 1, 0, 3), Bounds.piece(0, 1, 0, 2));
        for (int s = 0; s <= 2; s++) {
            is(25, "tight(" + s + "): piece 1 comes in 2", late.tight(s), s < 2 ? -1 : 1);
            is(26, "hottest(" + s + "): piece 1 comes in 2", late.hottest(s), s < 2 ? -1 : 1);
            is(46, "kernel(" + s + "): piece 1 comes in 2", late.kernel(s), s < 2 ? -1 : 1);
        }
        LehrBelt none = Bounds.belt(Bounds.BARE);
        is(25, "tight(0) without pieces", none.tight(0), -1);
        is(26, "hottest(0) without pieces", none.hottest(0), -1);
        is(46, "kernel(0) without pieces", none.kernel(0), -1);
        // out and cracked ones have come: piece 0 is out at 300, 1 cracked at 300
        LehrBelt done = Bounds.belt(head(2, 1), COLD, Bounds.piece(600, 2, 300, 0), Bounds.piece(600, 2, 10, 0),
                Bounds.piece(200, 2, 300, 1));
        is(25, "tight(2): one that is out", done.tight(2), 0);
        is(26, "hottest(2): one that is out", done.hottest(2), 0);
        is(46, "kernel(2): one that is out", done.kernel(2), 0);
    }

    /** "0, if none has come": promises 27 and 43. */
    private static void togetherInAStep() {
        LehrBelt x = Bounds.belt(head(3, 4), COLD, Bounds.piece(600, 1, 0, 3), Bounds.piece(100, 1, 0, 1),
                Bounds.piece(7, 1, 0, 2), Bounds.piece(500, 1, 0, 4));
        int[] glow = {0, 100, 57, 600 + 25 + 4};
        int[] spread = {0, 0, 43, 596};
        for (int s = 0; s <= 3; s++) {
            is(27, "glow(" + s + ")", x.glow(s), glow[s]);
            is(43, "spread(" + s + ")", x.spread(s), spread[s]);
        }
        LehrBelt all = Bounds.belt(head(1, 1), Bounds.zones(600), Bounds.piece(600, 1, 0, 0).repeat(6));
        is(27, "glow(0): all", all.glow(0), 3600);
        is(43, "spread(0): all alike", all.spread(0), 0);
        LehrBelt nought = Bounds.belt(head(1, 1), Bounds.piece(0, 1, 0, 0), Bounds.piece(600, 1, 0, 0));
        is(43, "spread(0): from 0", nought.spread(0), 600);
        is(27, "glow(0) without pieces", Bounds.belt(Bounds.BARE).glow(0), 0);
        is(43, "spread(0) without pieces", Bounds.belt(Bounds.BARE).spread(0), 0);
    }

    /** "The STEP in which most PIECES CRACK, the first of several, if any does". */
    private static void worstSteps() {
        String early = Bounds.piece(200, 2, 10, 0);
        String late = Bounds.piece(200, 2, 10, 1);
        String never = Bounds.piece(200, 1, 0, 0);
        is(28, "worst(): one", Bounds.belt(head(3, 4), COLD, never, late).worst(), 2);
        is(28, "worst(): the first of two", Bounds.belt(head(3, 4), COLD, late, late, early, early).worst(), 1);
        is(28, "worst(): the later one", Bounds.belt(head(3, 4), COLD, late, late, early, late, early).worst(), 2);
        is(28, "worst(): the last step", Bounds.belt(head(2, 4), COLD, late).worst(), 2);
        is(28, "worst(): none cracks", Bounds.belt(head(3, 4), COLD, never, never).worst(), -1);
        is(28, "worst() without pieces", Bounds.belt(Bounds.BARE).worst(), -1);
        is(28, "worst(): by strain and by what is frozen alike", Bounds.belt(Bounds.head(3, 0, 0, 2, 151), COLD, early,
                Bounds.piece(200, 2, 60, 0), Bounds.piece(200, 2, 60, 0)).worst(), 2);
    }

    /** "The ZONE in which most PIECES are when they CRACK, the first of several. NONE: in none". */
    private static void soreZones() {
        // those of 200 crack in zone 1, those of 0 in zone 0; by pace 1 it is where they are a step later
        String zones = Bounds.zones(200, 0);
        String hot = Bounds.piece(200, 2, 10, 0);
        String cold = Bounds.piece(0, 2, 10, 0);
        is(29, "sore(): the first of two", Bounds.belt(head(8, 2), zones, hot, cold).sore(), 0);
        is(29, "sore(): zone 1", Bounds.belt(head(8, 2), zones, hot, cold, hot).sore(), 1);
        is(29, "sore(): zone 0", Bounds.belt(head(8, 2), zones, cold).sore(), 0);
        is(29, "sore(): out when it cracks", Bounds.belt(head(8, 1), zones, hot).sore(), -1);
        is(29, "sore(): in the next zone when it cracks", Bounds.belt(head(8, 1), zones, cold).sore(), 1);
        is(29, "sore(): those out do not count", Bounds.belt(head(8, 1), zones, hot, hot, cold).sore(), 1);
        is(29, "sore(): none cracks", Bounds.belt(head(1, 2), zones, hot).sore(), -1);
        is(29, "sore() without zones", Bounds.belt(Bounds.BARE, hot).sore(), -1);
    }

    // ---- promises 30 to 33

    private static void tenseAndWarm() {
        LehrBelt x = Bounds.belt(head(3, 4), Bounds.zones(100), Bounds.piece(300, 2, 300, 0),
                Bounds.piece(0, 2, 300, 0), Bounds.piece(300, 1, 0, 0), Bounds.piece(100, 9, 0, 0),
                Bounds.piece(300, 2, 300, 2), Bounds.piece(0, 1, 0, 4));
        int[] tense = {3, 0, 0, 0, 1, 0};
        int[] warms = {0, 3, 0, 0, 0, 0};
        for (int p = 0; p < 6; p++) {
            is(30, "tense(" + p + "): alike is not cooler", x.tense(p), tense[p]);
            is(31, "warms(" + p + "): alike is not hotter", x.warms(p), warms[p]);
        }
        LehrBelt one = Bounds.belt(head(2, 4), Bounds.zones(102), Bounds.piece(100, 1, 0, 0), Bounds.piece(105, 2, 9, 0));
        is(31, "warms(0): by 1", one.warms(0), 1);
        is(30, "tense(1): by 1", one.tense(1), 2);
        is(15, "strain(1, 2)", one.strain(1, 2), 1);
        LehrBelt stays = Bounds.belt(head(14, 1), Bounds.zones(100), Bounds.piece(300, 2, 10, 0),
                Bounds.piece(0, 2, 300, 13));
        is(30, "tense(0): cracked and out, to the last step", stays.tense(0), 14);
        is(31, "warms(1): in the last step", stays.warms(1), 1);
    }

    private static void coolAndStill() {
        LehrBelt x = Bounds.belt(head(4, 2), COLD, Bounds.piece(200, 1, 0, 1), Bounds.piece(0, 1, 0, 4),
                Bounds.piece(600, 1, 0, 0), Bounds.piece(0, 1, 0, 5), Bounds.piece(200, 1, 0, 3));
        int[][] cool = {{200, 1}, {600, 1}, {199, 2}, {100, 2}, {99, 3}, {50, 3}, {49, -1}, {0, -1}};
        for (int[] row : cool) {
            is(32, "cool(0, " + row[0] + "): at it or below", x.cool(0, row[0]), row[1]);
        }
        is(32, "cool(1, 0): it comes in the last step", x.cool(1, 0), 4);
        is(32, "cool(2, 600)", x.cool(2, 600), 0);
        is(32, "cool(2, 599)", x.cool(2, 599), 1);
        is(32, "cool(3, 600): it does not come", x.cool(3, 600), -1);
        is(33, "still(0): out in 3", x.still(0), 3);
        is(33, "still(1)", x.still(1), 0);
        is(33, "still(2): out in 2", x.still(2), 2);
        is(33, "still(3): it does not come", x.still(3), 0);
        is(33, "still(4): it falls to the last step", x.still(4), 4);
        // 100, 100, 100, 150, 100: it was as in the last before, too, but not from then on
        LehrBelt back = Bounds.belt(head(4, 1), Bounds.zones(100, 100, 200, 50), Bounds.piece(100, 1, 0, 0));
        is(13, "skin(0, 4)", back.skin(0, 4), 100);
        is(33, "still(0): it was so ahead of that, too", back.still(0), 4);
    }

    // ---- promises 34 to 38

    private static void pairsAndCrowds() {
        String at0 = Bounds.piece(9, 1, 0, 0);
        String at1 = Bounds.piece(9, 1, 0, 1);
        LehrBelt x = Bounds.belt(head(2, 1), Bounds.zones(9, 9), at0, at1, at0, at1, at0);
        is(34, "pairs(0): of three", x.pairs(0), 3);
        is(34, "pairs(1): of three, and of two", x.pairs(1), 4);
        is(34, "pairs(2): those out are in none", x.pairs(2), 1);
        is(35, "crowd()", x.crowd(), 3);
        LehrBelt six = Bounds.belt(head(1, 1), Bounds.zones(9), at0.repeat(6));
        is(34, "pairs(0): of six", six.pairs(0), 15);
        is(34, "pairs(1): all are out", six.pairs(1), 0);
        is(35, "crowd(): six", six.crowd(), 6);
        LehrBelt one = Bounds.belt(head(2, 1), Bounds.zones(9), at0);
        is(34, "pairs(0): of one", one.pairs(0), 0);
        is(35, "crowd(): one", one.crowd(), 1);
        LehrBelt last = Bounds.belt(head(1, 1), Bounds.zones(9), at1, at1);
        is(35, "crowd(): in the last step", last.crowd(), 2);
        is(34, "pairs(0): none has come", last.pairs(0), 0);
        is(35, "crowd(): all are out at once", Bounds.belt(Bounds.BARE, at0, at0).crowd(), 0);
        is(34, "pairs(0): all are out at once", Bounds.belt(Bounds.BARE, at0, at0).pairs(0), 0);
        is(35, "crowd() without pieces", Bounds.belt(Bounds.BARE, "zone 5;").crowd(), 0);
    }

    /** "The hottest ZONE in a STEP, the first of several. NONE: there are none". */
    private static void ovens() {
        is(36, "oven(0) without zones", Bounds.belt(Bounds.BARE).oven(0), -1);
        is(36, "oven(0) of one", Bounds.belt(Bounds.BARE, Bounds.zones(0)).oven(0), 0);
        is(36, "oven(0): the first of two", Bounds.belt(Bounds.BARE, Bounds.zones(1, 5, 5, 2)).oven(0), 1);
        is(36, "oven(0): all alike", Bounds.belt(Bounds.BARE, Bounds.zones(0, 0, 0)).oven(0), 0);
        LehrBelt x = Bounds.belt(head(2, 1), Bounds.zones(40, 5, 5, 5, 5, 5, 60));
        is(36, "oven(0): the last one", x.oven(0), 6);
        x.gusts(1);
        is(36, "oven(1): all are at 0 by a gust, the first", x.oven(1), 0);
        x.fires(5, 56, 2);
        is(36, "oven(2): from a step on", x.oven(2), 5);
        is(36, "oven(0): not ahead of it", x.oven(0), 6);
    }

    private static void fallsAndCliffs() {
        LehrBelt x = Bounds.belt(head(2, 1), Bounds.zones(0, 600, 600, 0, 50, 20, 0));
        int[] fall = {-600, 0, 600, -50, 30, 20};
        for (int z = 0; z < 6; z++) {
            is(37, "fall(" + z + ", 0): below 0, too", x.fall(z, 0), fall[z]);
        }
        is(37, "fall(6, 0): no next one", x.fall(6, 0), -10_000);
        is(37, "fall(0, 0) of one zone", Bounds.belt(Bounds.BARE, Bounds.zones(5)).fall(0, 0), -10_000);
        is(38, "cliff(0)", x.cliff(0), 2);
        x.gusts(1);
        is(37, "fall(2, 1) in a gust", x.fall(2, 1), 520);
        is(37, "fall(4, 1) in a gust: both at 0", x.fall(4, 1), 0);
        is(38, "cliff(0) without zones: there are not two", Bounds.belt(Bounds.BARE).cliff(0), -1);
        is(38, "cliff(0) of one zone", Bounds.belt(Bounds.BARE, Bounds.zones(5)).cliff(0), -1);
        is(38, "cliff(0) of two", Bounds.belt(Bounds.BARE, Bounds.zones(5, 9)).cliff(0), 0);
        is(38, "cliff(0): the first of two", Bounds.belt(Bounds.BARE, Bounds.zones(9, 5, 1)).cliff(0), 0);
        is(38, "cliff(0): the last two", Bounds.belt(Bounds.BARE, Bounds.zones(9, 9, 8)).cliff(0), 1);
        is(38, "cliff(0): of rises the least", Bounds.belt(Bounds.BARE, Bounds.zones(1, 5, 6)).cliff(0), 1);
    }

    // ---- promises 39 to 42

    private static void leastSkins() {
        LehrBelt x = Bounds.belt(head(3, 1), Bounds.zones(100, 0), Bounds.piece(50, 1, 0, 0),
                Bounds.piece(50, 1, 0, 3), Bounds.piece(50, 1, 0, 4), Bounds.piece(50, 1, 0, 2));
        is(39, "least(0): behind others", x.least(0), 38);
        is(39, "least(1): it comes in the last step", x.least(1), 50);
        is(39, "least(2): it does not come", x.least(2), -1);
        is(39, "least(3): in the step in which it comes", x.least(3), 50);
        LehrBelt rising = Bounds.belt(head(1, 4), Bounds.zones(600), Bounds.piece(100, 1, 0, 0));
        is(39, "least(0): in step 0, in which it comes", rising.least(0), 100);
        is(39, "least(0) at 0", Bounds.belt(head(1, 1), Bounds.piece(0, 1, 0, 0)).least(0), 0);
    }

    /** "The STEP ahead of the last from which SKIN .. falls most .. the first of several, if it falls". */
    private static void chillsAndDrops() {
        LehrBelt x = Bounds.belt(Bounds.head(3, 1, 0, 4, 0), Bounds.zones(0), Bounds.piece(600, 1, 0, 0),
                Bounds.piece(0, 1, 0, 0), Bounds.piece(600, 1, 0, 2), Bounds.piece(600, 1, 0, 3),
                Bounds.piece(600, 1, 0, 14), Bounds.piece(1, 1, 0, 0));
        int[] chill = {0, -1, 2, -1, -1, -1};
        int[] drop2 = {60, 0, 60, 0, 0, 0};
        for (int p = 0; p < 6; p++) {
            is(40, "chill(" + p + ")", x.chill(p), chill[p]);
            is(41, "drop(" + p + ", 2): from the last but one", x.drop(p, 2), drop2[p]);
            is(41, "drop(" + p + ", 3): from the last", x.drop(p, 3), -100_000);
        }
        LehrBelt one = Bounds.belt(head(2, 4), Bounds.zones(98), Bounds.piece(100, 1, 0, 1));
        is(40, "chill(0): it falls by 1", one.chill(0), 1);
        is(41, "drop(0, 1): it falls by 1", one.drop(0, 1), 1);
        LehrBelt warm = Bounds.belt(head(2, 4), Bounds.zones(600), Bounds.piece(0, 1, 0, 0));
        is(40, "chill(0): it rises alone", warm.chill(0), -1);
        is(41, "drop(0, 0): below 0, too", warm.drop(0, 0), -300);
        LehrBelt more = Bounds.belt(head(3, 1), Bounds.zones(190, 100, 0), Bounds.piece(200, 1, 0, 0));
        is(40, "chill(0): the most, not the first", more.chill(0), 2);
    }

    /** "STRAIN .. is more than half (cut) of what it bears": 0, 50, 50, 38, 25 by step. */
    private static void gapsByHalf() {
        LehrBelt x = Bounds.belt(head(4, 4), COLD, Bounds.piece(200, 2, 300, 0), Bounds.piece(200, 1, 0, 0));
        int[][] gaps = {{101, 0}, {100, 0}, {99, 2}, {76, 2}, {75, 3}, {74, 3}, {52, 3}, {50, 3}};
        int[] strain = {0, 50, 50, 38, 25};
        for (int s = 0; s <= 4; s++) {
            is(15, "strain(0, " + s + ")", x.strain(0, s), strain[s]);
        }
        for (int[] row : gaps) {
            x.rate(0, row[0]);
            is(42, "gaps(0), bearing " + row[0], x.gaps(0), row[1]);
        }
        x.rate(0, 1);
        is(42, "gaps(0), bearing 1: from the crack on", x.gaps(0), 4);
        is(42, "gaps(1): no strain is not more than half of 0", x.gaps(1), 0);
    }

    // ---- promises 44 to 51

    private static void comingAndCracked() {
        LehrBelt x = Bounds.belt(head(2, 4), COLD, Bounds.piece(200, 2, 10, 1), Bounds.piece(200, 2, 10, 2),
                Bounds.piece(200, 2, 10, 3), Bounds.piece(200, 2, 10, 0));
        is(44, "coming(0)", x.coming(0), 8);
        is(44, "coming(1)", x.coming(1), 1);
        is(44, "coming(2): the last step", x.coming(2), 2);
        is(45, "cracked(0): no strain yet", x.cracked(0), 0);
        is(45, "cracked(1)", x.cracked(1), 8);
        is(45, "cracked(2): the last step; the one ahead not again", x.cracked(2), 1);
        is(44, "coming(0) without pieces", Bounds.belt(Bounds.BARE).coming(0), 0);
        is(45, "cracked(0) without pieces", Bounds.belt(Bounds.BARE).cracked(0), 0);
    }

    private static void tallies() {
        LehrBelt x = Bounds.belt(Bounds.head(3, 0, 0, 2, 151), COLD, Bounds.piece(200, 2, 40, 0),
                Bounds.piece(200, 2, 60, 0), Bounds.piece(200, 2, 60, 1), Bounds.piece(200, 2, 60, 2),
                Bounds.piece(200, 2, 0, 4), Bounds.piece(200, 2, 300, 0));
        is(47, "tally(0): those that do not come, too", x.tally(0), 3);
        is(47, "tally(1)", x.tally(1), 1);
        is(47, "tally(2)", x.tally(2), 2);
        LehrBelt none = Bounds.belt(Bounds.BARE);
        for (int what = 0; what <= 2; what++) {
            is(47, "tally(" + what + ") without pieces", none.tally(what), 0);
        }
        is(47, "tally(0): all", Bounds.belt(head(1, 1), Bounds.piece(9, 1, 0, 0).repeat(6)).tally(0), 6);
    }

    private static void zonesInUse() {
        LehrBelt x = Bounds.belt(head(4, 2), Bounds.zones(9, 9, 9), Bounds.piece(9, 1, 0, 1), Bounds.piece(9, 1, 0, 1));
        int[] last = {2, 4, -1};
        int[] busy = {2, 2, 0};
        for (int z = 0; z < 3; z++) {
            is(48, "last(" + z + ")", x.last(z), last[z]);
            is(49, "busy(" + z + ")", x.busy(z), busy[z]);
        }
        is(50, "idle()", x.idle(), 4);
        LehrBelt edges = Bounds.belt(head(4, 1), Bounds.zones(9), Bounds.piece(9, 1, 0, 0), Bounds.piece(9, 1, 0, 4));
        is(48, "last(0): the last step", edges.last(0), 4);
        is(49, "busy(0): the first and the last step", edges.busy(0), 2);
        is(50, "idle(): none", edges.idle(), 0);
        LehrBelt first = Bounds.belt(head(4, 1), Bounds.zones(9), Bounds.piece(9, 1, 0, 0), Bounds.piece(9, 1, 0, 5));
        is(48, "last(0): step 0 is one", first.last(0), 0);
        is(49, "busy(0)", first.busy(0), 1);
        LehrBelt empty = Bounds.belt(head(14, 1), Bounds.zones(9, 9, 9, 9, 9, 9, 9));
        is(48, "last(6) without pieces", empty.last(6), -1);
        is(49, "busy(0) without pieces", empty.busy(0), 0);
        is(50, "idle(): all", empty.idle(), 127);
        is(50, "idle() without zones", Bounds.belt(Bounds.BARE).idle(), 0);
        LehrBelt cracked = Bounds.belt(head(14, 2), COLD, Bounds.zones(0), Bounds.piece(600, 9, 0, 0));
        is(49, "busy(1): a cracked one, too", cracked.busy(1), 2);
        LehrBelt full = Bounds.belt(head(14, 4), Bounds.zones(9), Bounds.piece(9, 1, 0, 0), Bounds.piece(9, 1, 0, 4),
                Bounds.piece(9, 1, 0, 8), Bounds.piece(9, 1, 0, 11));
        is(49, "busy(0): every step, some more than once", full.busy(0), 15);
    }

    /** "PIECES, come, whose CORE is below set": at set it is not. */
    private static void stiffCores() {
        LehrBelt x = Bounds.belt(Bounds.head(2, 0, 0, 4, 100), COLD, Bounds.piece(99, 1, 0, 0),
                Bounds.piece(100, 1, 0, 0), Bounds.piece(200, 1, 0, 0), Bounds.piece(99, 1, 0, 2),
                Bounds.piece(0, 1, 0, 3));
        is(51, "stiff(0)", x.stiff(0), 1);
        is(51, "stiff(1): 100 is at set", x.stiff(1), 3);
        is(51, "stiff(2): the last step", x.stiff(2), 15);
        is(51, "stiff(1) by set 0", Bounds.belt(head(2, 1), COLD, Bounds.piece(0, 1, 0, 0)).stiff(1), 0);
        is(51, "stiff(0) without pieces", Bounds.belt(Bounds.BARE).stiff(0), 0);
        LehrBelt out = Bounds.belt(Bounds.head(2, 0, 0, 4, 600), Bounds.piece(599, 1, 0, 0), Bounds.piece(600, 1, 0, 0));
        is(51, "stiff(2): one that is out, too", out.stiff(2), 1);
    }
}
