import java.math.BigInteger;

/**
 * The document's boundary cases of what might be otherwise, of shares, games and chance, of acts and images:
 * terms V to VII, promises 52 to 60 and 66 to 83.
 */
public final class TrialBoundaryTests {
    private static final String COLD = Bounds.zones(0);
    /** Strained by 50 in step 1 in air of 0. */
    private static final String WEAK = Bounds.piece(200, 2, 10, 0);

    private TrialBoundaryTests() { }

    public static void main(String[] args) {
        whatThereIsNot();
        choicesThatThereAreNot();
        spares();
        needs();
        needsLater();
        frozenStrength();
        trialsByTheMean();
        chanceByTheMean();
        thins();
        paces();
        raises();
        rescues();
        swaps();
        skips();
        laws();
        worths();
        shares();
        gets();
        rests();
        chancesForSure();
        chancesBySteps();
        means();
        fullActs();
        firesAndGusts();
        actsTakenBack();
        courseOfEachChange();
        draughts();
        luckOfSeeds();
        rates();
        counts();
        images();
        imagesOfActs();
        manyCalls();
        Checks.close("TrialBoundaryTests");
    }

    private static void is(int promise, String what, long got, long want) {
        Bounds.is(promise, what, got, want);
    }

    /** A lehr of law 0, no odds and set 0. */
    private static String head(int steps, int pace) {
        return Bounds.head(steps, 0, 0, pace, 0);
    }

    // ---- -2 and its like, of each promise

    private static void whatThereIsNot() {
        Bounds.needsPiece(52, "spare", LehrBelt::spare, -2);
        Bounds.needsPiece(53, "needs", LehrBelt::needs, -2);
        Bounds.needsPiece(54, "thin", LehrBelt::thin, -2);
        Bounds.needsLehr(55, "pace", LehrBelt::pace, -2);
        Bounds.needsLehr(56, "paced", LehrBelt::paced, -2);
        Bounds.needsZone(57, "raise", (x, z) -> x.raise(z, 0), -2);
        Bounds.needsPiece(57, "raise", (x, p) -> x.raise(0, p), -2);
        Bounds.needsPiece(58, "rescue", LehrBelt::rescue, -2);
        Bounds.needsLehr(59, "swap", LehrBelt::swap, -2);
        Bounds.needsLehr(60, "skip", LehrBelt::skip, -2);
        Bounds.needsLehr(66, "by", x -> x.by(0), -2);
        Bounds.needsNumber(66, "by", LehrBelt::by, -2, 0, 3);
        Bounds.needsLehr(67, "law", LehrBelt::law, -2);
        Bounds.needsLehr(68, "worth", x -> x.worth(0), -2);
        Bounds.needsNumber(68, "worth: there is such a set", LehrBelt::worth, -2, 0, 127);
        Bounds.needsZone(69, "share", (x, z) -> x.share(z, 0), -1_000_000);
        Bounds.needsPart(69, "share", (x, what) -> x.share(0, what), -1_000_000);
        Bounds.needsPiece(72, "chance", (x, p) -> x.chance(p, 1, 0), -2);
        Bounds.needsNumber(72, "chance by its step", (x, s) -> x.chance(0, s, 0), -2, 1, 8);
        Bounds.needsPart(72, "chance", (x, what) -> x.chance(0, 1, what), -2);
        Bounds.needsLehr(73, "mean", x -> x.mean(1, 0), -2);
        Bounds.needsNumber(73, "mean by its step", (x, s) -> x.mean(s, 0), -2, 1, 8);
        Bounds.needsPart(73, "mean", (x, what) -> x.mean(1, what), -2);
        Bounds.needsLehr(78, "drawn", x -> x.drawn(0, 0), -2);
        Bounds.needsNumber(78, "drawn by its seed", (x, seed) -> x.drawn(seed, 0), -2, 0, 2_000_000_000);
        Bounds.needsPart(78, "drawn", (x, what) -> x.drawn(0, what), -2);
        Bounds.needsPiece(79, "luck", (x, p) -> x.luck(0, 1, p), -2);
        Bounds.needsNumber(79, "luck by its seed", (x, seed) -> x.luck(seed, 1, 0), -2, 0, 2_000_000_000);
        Bounds.needsNumber(79, "luck by n", (x, n) -> x.luck(0, n, 0), -2, 1, 20);
    }

    private static void choicesThatThereAreNot() {
        Bounds.needsZone(70, "rests: the first", (x, z) -> x.rests(z, z == 0 ? 1 : 0), -2);
        Bounds.needsZone(70, "rests: the other", (x, z) -> x.rests(z == 0 ? 1 : 0, z), -2);
        Bounds.needsZone(71, "gets: the first", (x, z) -> x.gets(z, z == 0 ? 1 : 0, 0, 0, 0), -1_000);
        Bounds.needsZone(71, "gets: the other", (x, z) -> x.gets(z == 0 ? 1 : 0, z, 0, 0, 0), -1_000);
        Bounds.needsNumber(71, "gets by fired", (x, f) -> x.gets(0, 1, f, 0, 0), -1_000, 0, 1);
        Bounds.needsNumber(71, "gets by otherFired", (x, f) -> x.gets(0, 1, 0, f, 0), -1_000, 0, 1);
        Bounds.needsPart(71, "gets", (x, what) -> x.gets(0, 1, 0, 0, what), -1_000);
        LehrBelt full = Bounds.belt(Bounds.FULL);
        for (int z = 0; z < 7; z++) {
            is(70, "rests: one twice", full.rests(z, z), -2);
            is(71, "gets: one twice", full.gets(z, z, 0, 0, 0), -1_000);
            is(71, "gets: one twice, both fired", full.gets(z, z, 1, 1, 1), -1_000);
        }
        Bounds.needsZone(74, "fires", (x, z) -> x.fires(z, 1, 0), -2);
        Bounds.needsNumber(74, "fires by n", (x, n) -> x.fires(0, n, 0), -2, 1, 200);
        Bounds.needsStep(74, "fires", (x, s) -> x.fires(0, 1, s), -2);
        Bounds.needsStepAhead(75, "gusts", LehrBelt::gusts, -2);
        Bounds.needsLehr(76, "undo", LehrBelt::undo, -2);
        Bounds.needsLehr(77, "anew", LehrBelt::anew, -2);
        Bounds.needsPiece(80, "rate", (x, p) -> x.rate(p, 0), -2);
        Bounds.needsNumber(80, "rate by n", (x, n) -> x.rate(0, n), -2, 0, 300);
        Bounds.needsNumber(81, "count", LehrBelt::count, -1, 0, 10);
        Bounds.needsNumber(82, "image", LehrBelt::image, -2, 0, 2);
        Bounds.needsNumber(83, "back", LehrBelt::back, -2, 0, 2);
    }

    // ---- promises 52 to 54

    /** "how much less (0 .. 300) than told a PIECE might bear and still not CRACK, at most. NONE: it CRACKS". */
    private static void spares() {
        int[] bears = {0, 49, 50, 51, 300};
        int[] spare = {-1, -1, 0, 1, 250};
        for (int i = 0; i < bears.length; i++) {
            LehrBelt x = Bounds.belt(head(3, 4), COLD, Bounds.piece(200, 2, bears[i], 0),
                    Bounds.piece(200, 1, bears[i], 0), Bounds.piece(200, 2, bears[i], 14));
            is(52, "spare(0), bearing " + bears[i], x.spare(0), spare[i]);
            is(52, "spare(1): never strained, bearing " + bears[i], x.spare(1), bears[i]);
            is(52, "spare(2): it does not come, bearing " + bears[i], x.spare(2), bears[i]);
            is(52, "piece(0, 2) stays", x.piece(0, 2), bears[i]);
        }
        LehrBelt x = Bounds.belt(head(3, 4), COLD, WEAK);
        x.rate(0, 60);
        is(52, "spare(0) of what it bears from now on", x.spare(0), 10);
    }

    /** "the least that it must bear (0 .. 300) so that it does not. NONE: by none". */
    private static void needs() {
        for (int bears : new int[] {0, 49, 50, 300}) {
            LehrBelt x = Bounds.belt(head(3, 4), COLD, Bounds.piece(200, 2, bears, 0), Bounds.piece(200, 1, bears, 0),
                    Bounds.piece(200, 2, bears, 14));
            is(53, "needs(0), whatever it bears", x.needs(0), 50);
            is(53, "needs(1): 0", x.needs(1), 0);
            is(53, "needs(2): it does not come", x.needs(2), 0);
        }
        for (int strain = 298; strain <= 302; strain++) {
            // from 0 in air four times as hot as the strain the skin goes to twice, the core to once as much
            LehrBelt x = Bounds.belt(head(1, 4), Bounds.zones(600), Bounds.piece(0, 2, 300, 0));
            for (int left = 4 * strain - 600; left > 0; left -= 200) {
                x.fires(0, Math.min(left, 200), 0);
            }
            is(15, "strain(0, 1)", x.strain(0, 1), strain);
            is(53, "needs(0): 300 at most", x.needs(0), strain <= 300 ? strain : -1);
            is(52, "spare(0)", x.spare(0), strain <= 300 ? 300 - strain : -1);
        }
    }

    /** What it needs is told by all steps, also those behind the one in which it cracks now. */
    private static void needsLater() {
        // strained by 5 in step 1 and by 50 in step 2
        LehrBelt x = Bounds.belt(head(2, 1), Bounds.zones(180, 0), Bounds.piece(0, 1, 0, 9).repeat(5),
                Bounds.piece(200, 2, 3, 0));
        is(53, "needs(5)", x.needs(5), 50);
        is(20, "cracks(5)", x.cracks(5), 1);
        is(53, "needs(0)", x.needs(0), 0);
        x.rate(5, 49);
        is(52, "spare(5): 49 of 50", x.spare(5), -1);
        x.rate(5, 50);
        is(52, "spare(5): 50 of 50", x.spare(5), 0);
    }

    /** By law 2 a piece is changed by others, of which nothing is asked. */
    private static void trialsByTheMean() {
        // beside one of 400 it goes to a mean of 250, then 187: skin 225, 206, core 212, 209
        String text = Bounds.head(2, 2, 3, 4, 0) + Bounds.zones(100) + Bounds.piece(200, 2, 20, 0)
                + Bounds.piece(400, 1, 0, 0);
        is(53, "needs(0) by the mean", Bounds.belt(text).needs(0), 13);
        is(52, "spare(0) by the mean", Bounds.belt(text).spare(0), 7);
        is(54, "thin(0) by the mean: strain 13, 17, 19, 20, 21", Bounds.belt(text).thin(0), 5);
        // beside one of 20 it needs a mean of 119, as 238 and 20 give
        String cold = Bounds.head(2, 2, 3, 4, 0) + Bounds.zones(100) + Bounds.piece(200, 2, 20, 0)
                + Bounds.piece(20, 1, 0, 0);
        is(57, "raise(0, 0) by the mean", Bounds.belt(cold).raise(0, 0), 118);
        is(58, "rescue(0) by the mean", Bounds.belt(cold).rescue(0), 0);
        is(23, "sound()", Bounds.belt(cold).sound(), 2);
    }

    private static void chanceByTheMean() {
        // only in a gust, by a mean of 210 in place of 250, does it bear the one beside it
        LehrBelt x = Bounds.belt(Bounds.head(1, 2, 3, 4, 0), Bounds.zones(100), Bounds.piece(200, 2, 5, 0),
                Bounds.piece(400, 1, 0, 0));
        int lucky = 0;
        for (int n = 1; n <= 20; n++) {
            lucky += draughtsOf(n + 4, 1, 3);
            is(79, "luck(5, " + n + ", 0) by the mean", x.luck(5, n, 0), lucky);
        }
        is(72, "chance(0, 1, 0) by the mean", x.chance(0, 1, 0), 3);
        is(72, "chance(0, 1, 1) by the mean", x.chance(0, 1, 1), 10);
        is(73, "mean(1, 0) by the mean", x.mean(1, 0), 13);
    }

    /** Of what is frozen it bears twice as much, if it is out by the last step. */
    private static void frozenStrength() {
        String piece = Bounds.piece(200, 2, 101, 0);
        LehrBelt out = Bounds.belt(Bounds.head(1, 0, 0, 1, 151), COLD, piece);
        is(53, "needs(0): out in the last step", out.needs(0), 100);
        is(52, "spare(0): out in the last step", out.spare(0), 1);
        LehrBelt inside = Bounds.belt(Bounds.head(1, 0, 0, 2, 151), COLD, piece);
        is(53, "needs(0): not out by the last step", inside.needs(0), 50);
        is(52, "spare(0): not out by the last step", inside.spare(0), 51);
        LehrBelt unset = Bounds.belt(Bounds.head(1, 0, 0, 1, 150), COLD, piece);
        is(53, "needs(0): nothing is frozen", unset.needs(0), 50);
        LehrBelt nought = Bounds.belt(Bounds.head(1, 0, 0, 1, 200), COLD, Bounds.piece(200, 1, 0, 0));
        is(53, "needs(0): 0 is frozen", nought.needs(0), 0);
        is(52, "spare(0): 0 is frozen", nought.spare(0), 0);
        // of frozen 150 it needs 300; of 151 it would need 302, as half (cut) of 301 is 150
        LehrBelt most = Bounds.belt(Bounds.head(1, 0, 0, 1, 451), COLD, Bounds.piece(600, 2, 0, 0));
        is(18, "frozen(0)", Bounds.belt(Bounds.head(1, 0, 0, 1, 451), COLD, Bounds.piece(600, 2, 300, 0)).frozen(0),
                150);
        is(53, "needs(0): 300", most.needs(0), 300);
        LehrBelt more = Bounds.belt(Bounds.head(1, 0, 0, 1, 453), COLD, Bounds.piece(453, 3, 300, 0));
        is(18, "frozen(0)", more.frozen(0), 151);
        is(53, "needs(0): 302 are too many", more.needs(0), -1);
        is(52, "spare(0): it cracks", more.spare(0), -1);
        // strained by 200 in step 1, more than twice the 67 frozen in 2
        LehrBelt strain = Bounds.belt(Bounds.head(2, 0, 0, 1, 480), Bounds.zones(0, 500), Bounds.piece(600, 3, 0, 0));
        is(53, "needs(0): the greater one", strain.needs(0), 200);
    }

    /** "the greatest thick (1 .. 9) with which it does not". */
    private static void thins() {
        // strain 100 - 100 / thick in step 1: 0, 50, 67, 75, 80, 84, 86, 88, 89
        int[] strain = {0, 50, 67, 75, 80, 84, 86, 88, 89};
        for (int thick = 1; thick <= 9; thick++) {
            for (int told : new int[] {1, thick, 9}) {
                LehrBelt x = Bounds.belt(head(1, 2), COLD, Bounds.piece(200, told, strain[thick - 1], 0));
                is(54, "thin(0), bearing as much as thick " + thick, x.thin(0), thick);
                is(54, "piece(0, 1) stays", x.piece(0, 1), told);
            }
        }
        LehrBelt x = Bounds.belt(head(1, 2), COLD, Bounds.piece(200, 9, 0, 0), Bounds.piece(200, 9, 300, 0),
                Bounds.piece(200, 9, 0, 2));
        is(54, "thin(0): the least there is", x.thin(0), 1);
        is(54, "thin(1): the greatest there is", x.thin(1), 9);
        is(54, "thin(2): it does not come", x.thin(2), 9);
        // thick 2 sets and cracks by what is frozen, 3 and more never sets
        LehrBelt between = Bounds.belt(Bounds.head(1, 0, 0, 1, 160), COLD, Bounds.piece(200, 2, 90, 0));
        is(21, "why(0) by thick 2", between.why(0), 2);
        is(54, "thin(0): not each one below does", between.thin(0), 9);
    }

    // ---- promises 55 to 60

    /** "the least pace (1 .. 6) in place of that told by which most PIECES never CRACK". */
    private static void paces() {
        // with n steps to a zone it stays in the warm one to step n
        for (int steps = 1; steps <= 7; steps++) {
            for (int told : new int[] {1, 4}) {
                LehrBelt x = Bounds.belt(head(steps, told), Bounds.zones(200, 0), WEAK);
                is(55, "pace() of " + steps + " steps", x.pace(), steps <= 6 ? steps : 1);
                is(56, "paced() of " + steps + " steps", x.paced(), steps <= 6 ? 1 : 0);
                is(55, "count(3) stays", x.count(3), told);
            }
        }
        // piece 0 needs pace 2, piece 1 needs pace 3 (then both stay)
        LehrBelt two = Bounds.belt(head(3, 1), Bounds.zones(200, 0), Bounds.piece(200, 2, 10, 1), WEAK);
        is(55, "pace(): the most", two.pace(), 3);
        is(56, "paced(): the most", two.paced(), 2);
        LehrBelt all = Bounds.belt(head(14, 4), Bounds.zones(200), WEAK, WEAK, WEAK, WEAK, WEAK, WEAK);
        is(55, "pace(): the least of several", all.pace(), 1);
        is(56, "paced(): all", all.paced(), 6);
        is(55, "pace() without pieces", Bounds.belt(Bounds.BARE).pace(), 1);
        is(56, "paced() without pieces", Bounds.belt(Bounds.BARE).paced(), 0);
    }

    /** "the least n (0 .. 200) by which a ZONE must be hotter .. NONE: by none". */
    private static void raises() {
        // in air of 159 or more it is strained by 10 or less
        int[] air = {160, 159, 158, 157, 0};
        int[] raise = {0, 0, 1, 2, 159};
        for (int i = 0; i < air.length; i++) {
            LehrBelt x = Bounds.belt(head(1, 2), Bounds.zones(air[i], 0), Bounds.piece(200, 2, 10, 0));
            is(57, "raise(0, 0) of " + air[i], x.raise(0, 0), raise[i]);
            is(57, "raise(1, 0) of " + air[i], x.raise(1, 0), raise[i] == 0 ? 0 : -1);
            is(57, "zone(0) stays", x.zone(0), air[i]);
        }
        for (int heat = 240; heat <= 243; heat++) {
            LehrBelt x = Bounds.belt(head(1, 2), COLD, Bounds.piece(heat, 2, 10, 0));
            is(57, "raise(0, 0) of " + heat + ": 200 at most", x.raise(0, 0), heat <= 241 ? heat - 41 : -1);
            is(58, "rescue(0) of " + heat + ": 200 at most", x.rescue(0), heat <= 241 ? 0 : -1);
        }
        LehrBelt acts = Bounds.belt(head(1, 2), COLD, Bounds.piece(242, 2, 10, 0));
        acts.fires(0, 1, 0);
        is(57, "raise(0, 0): besides", acts.raise(0, 0), 200);
        acts.gusts(0);
        is(57, "raise(0, 0): less 80 by a gust", acts.raise(0, 0), -1);
        acts.anew();
        acts.fires(0, 100, 0);
        acts.gusts(0);
        is(57, "raise(0, 0): 201 of 100, n, less 80", acts.raise(0, 0), 181);
    }

    /** "The ZONE that needs least for it, the first of several. NONE: none does". */
    private static void rescues() {
        LehrBelt whole = Bounds.belt(head(1, 2), Bounds.zones(0, 0), Bounds.piece(200, 2, 300, 0));
        is(58, "rescue(0): each needs 0, the first", whole.rescue(0), 0);
        LehrBelt seventh = Bounds.belt(head(7, 1), Bounds.zones(200, 200, 200, 200, 200, 200, 0), WEAK);
        is(57, "raise(5, 0)", seventh.raise(5, 0), -1);
        is(57, "raise(6, 0)", seventh.raise(6, 0), 159);
        is(58, "rescue(0): the last one", seventh.rescue(0), 6);
        LehrBelt none = Bounds.belt(head(2, 1), Bounds.zones(0, 600), WEAK);
        is(58, "rescue(0): none does", none.rescue(0), -1);
        is(58, "rescue(0) without zones: it never cracks", Bounds.belt(Bounds.BARE, WEAK).rescue(0), -1);
        LehrBelt late = Bounds.belt(head(2, 1), Bounds.zones(0, 0), Bounds.piece(200, 2, 10, 3));
        is(58, "rescue(0): it does not come", late.rescue(0), 0);
    }

    /** "two ZONES (10 times the lesser and the other one) that .. make most .. if more than now, the first". */
    private static void swaps() {
        is(59, "swap() without zones", Bounds.belt(Bounds.BARE, WEAK).swap(), -1);
        is(59, "swap() of one zone", Bounds.belt(head(1, 2), COLD, WEAK).swap(), -1);
        is(59, "swap(): not more than now", Bounds.belt(head(1, 2), Bounds.zones(200, 0), WEAK).swap(), -1);
        is(59, "swap() without pieces", Bounds.belt(Bounds.BARE, Bounds.zones(0, 200)).swap(), -1);
        is(59, "swap(): 0 and 1", Bounds.belt(head(1, 2), Bounds.zones(0, 200), WEAK).swap(), 1);
        is(59, "swap(): the first of several", Bounds.belt(head(1, 2), Bounds.zones(0, 0, 200, 200), WEAK).swap(), 2);
        is(59, "swap(): 0 and 6", Bounds.belt(head(1, 2), Bounds.zones(0, 0, 0, 0, 0, 0, 200), WEAK).swap(), 6);
        is(59, "swap(): 200 and then 0", Bounds.belt(head(2, 1), Bounds.zones(0, 200), WEAK).swap(), -1);
        LehrBelt last = Bounds.belt(head(6, 1), Bounds.zones(200, 200, 200, 200, 200, 100, 160), WEAK);
        is(59, "swap(): 5 and 6", last.swap(), 56);
        is(59, "zone(5) stays", last.zone(5), 100);
        is(59, "zone(6) stays", last.zone(6), 160);
        // 250 saves piece 1 alone, 220 all three
        LehrBelt most = Bounds.belt(head(1, 2), Bounds.zones(0, 250, 220), WEAK, Bounds.piece(240, 2, 10, 0), WEAK);
        is(59, "swap(): the most", most.swap(), 2);
        LehrBelt acts = Bounds.belt(head(1, 2), Bounds.zones(0, 200), WEAK);
        acts.fires(0, 200, 0);
        is(59, "swap(): not more than now, by acts", acts.swap(), -1);
        acts.fires(0, 200, 0);
        is(59, "swap(): acts stay where they are", acts.swap(), -1);
    }

    /** "The ZONE that, left out (those behind come sooner ..), makes most never CRACK, if more than now". */
    private static void skips() {
        is(60, "skip() without zones", Bounds.belt(Bounds.BARE, WEAK).skip(), -1);
        is(60, "skip(): the only zone", Bounds.belt(head(1, 2), COLD, WEAK).skip(), 0);
        is(60, "skip(): not more than now", Bounds.belt(head(1, 2), Bounds.zones(200, 0), WEAK).skip(), -1);
        is(60, "skip() without pieces", Bounds.belt(Bounds.BARE, Bounds.zones(0, 200)).skip(), -1);
        LehrBelt last = Bounds.belt(head(7, 1), Bounds.zones(200, 200, 200, 200, 200, 200, 0), WEAK);
        is(60, "skip(): the last one", last.skip(), 6);
        is(60, "count(5) stays", last.count(5), 7);
        is(60, "zone(6) stays", last.zone(6), 0);
        is(60, "skip(): zone 0", Bounds.belt(head(1, 2), Bounds.zones(0, 200), WEAK).skip(), 0);
        // strained by 34 and 73; by 67 without zone 0, by 34 without zone 1
        LehrBelt two = Bounds.belt(head(2, 1), Bounds.zones(100, 0), Bounds.piece(200, 3, 70, 0));
        is(60, "skip(): either does, the first of several", two.skip(), 0);
        // what zone 6 is hotter goes with it as it comes sooner
        LehrBelt fired = Bounds.belt(head(6, 1), Bounds.zones(200, 200, 200, 200, 200, 0, 0), WEAK);
        is(60, "skip(): zone 6 would crack it as well", fired.skip(), -1);
        fired.fires(6, 200, 0);
        is(60, "skip(): zone 6 comes with its fire", fired.skip(), 5);
        fired.undo();
        fired.fires(5, 200, 0);
        is(60, "skip(): not more than now", fired.skip(), -1);
        LehrBelt first = Bounds.belt(head(1, 2), Bounds.zones(0, 0), WEAK);
        first.fires(1, 200, 0);
        is(60, "skip(): zone 1 comes with its fire in place of zone 0", first.skip(), 0);
        is(60, "air(0, 0) stays", first.air(0, 0), 0);
        is(60, "air(1, 0) stays", first.air(1, 0), 200);
        LehrBelt gust = Bounds.belt(head(1, 2), Bounds.zones(0, 200), WEAK);
        gust.gusts(0);
        is(60, "skip(): a gust stays in its step", gust.skip(), -1);
    }

    // ---- promises 66 to 69

    private static void laws() {
        String text = Bounds.zones(0) + Bounds.piece(200, 2, 50, 0) + Bounds.piece(200, 2, 34, 0)
                + Bounds.piece(200, 2, 30, 0) + Bounds.piece(200, 2, 29, 0);
        for (int told = 0; told < 4; told++) {
            LehrBelt x = Bounds.belt(Bounds.head(1, told, 0, 2, 0), text);
            // strain by law 0: 50; by 1: 30; by 2 (mean 150): 13; by 3: 33
            int[] sound = {1, 7, 15, 3};
            for (int law = 0; law < 4; law++) {
                is(66, "by(" + law + "), told " + told, x.by(law), sound[law]);
            }
            is(67, "law(), told " + told, x.law(), 2);
            is(66, "count(1) stays", x.count(1), told);
        }
        is(67, "law(): strain 50, 30, 50, 33", Bounds.belt(Bounds.head(1, 0, 0, 2, 0), COLD,
                Bounds.piece(200, 2, 31, 0)).law(), 1);
        is(67, "law(): the least of 1 and 3", Bounds.belt(Bounds.head(1, 0, 0, 2, 0), COLD,
                Bounds.piece(200, 2, 33, 0)).law(), 1);
        is(67, "law(): the least of several", Bounds.belt(Bounds.head(1, 3, 0, 2, 0), COLD,
                Bounds.piece(200, 1, 0, 0)).law(), 0);
        is(67, "law(): the last one", Bounds.belt(Bounds.head(1, 0, 0, 2, 0), Bounds.zones(20),
                Bounds.piece(110, 2, 15, 0)).law(), 3);
        is(67, "law() without pieces", Bounds.belt(Bounds.BARE).law(), 0);
        is(66, "by(3) without pieces", Bounds.belt(Bounds.BARE).by(3), 0);
    }

    /** "there is no such set": the bits are those of the zones that there are. */
    private static void worths() {
        LehrBelt bare = Bounds.belt(Bounds.BARE, WEAK);
        is(68, "worth(0) without zones", bare.worth(0), 1);
        is(68, "worth(1) without zones", bare.worth(1), -2);
        LehrBelt three = Bounds.belt(head(1, 2), Bounds.zones(200, 0, 0), WEAK);
        is(68, "worth(0): none burns", three.worth(0), 0);
        is(68, "worth(1)", three.worth(1), 1);
        is(68, "worth(6)", three.worth(6), 0);
        is(68, "worth(7): all burn", three.worth(7), 1);
        is(68, "worth(8)", three.worth(8), -2);
        is(68, "worth(-1)", three.worth(-1), -2);
        // in air of 0 the first cracks, the second not; in air of 1 neither, below 0 both would
        LehrBelt nought = Bounds.belt(head(1, 2), Bounds.zones(100), Bounds.piece(42, 2, 10, 0),
                Bounds.piece(41, 2, 10, 0));
        is(68, "worth(0): air of 0", nought.worth(0), 1);
        three.fires(0, 200, 0);
        is(68, "worth(0): acts as now", three.worth(0), 1);
        is(68, "zone(0) stays", three.zone(0), 200);
    }

    /** "lowest terms (0 / 1)"; "(below 0, too)". */
    private static void shares() {
        LehrBelt seven = Bounds.belt(head(14, 1), Bounds.zones(100, 100, 100, 100, 100, 100, 100),
                Bounds.piece(100, 2, 10, 0));
        for (int z = 0; z < 7; z++) {
            is(69, "share(" + z + ", 0) of seven alike", seven.share(z, 0), 1);
            is(69, "share(" + z + ", 1) of seven alike", seven.share(z, 1), 7);
        }
        for (int felt = 1; felt <= 6; felt++) {
            LehrBelt some = Bounds.belt(head(felt, 1), Bounds.zones(100, 100, 100, 100, 100, 100, 100),
                    Bounds.piece(100, 2, 10, 0));
            is(69, "share(0, 0) of " + felt + " that are felt", some.share(0, 0), 1);
            is(69, "share(0, 1) of " + felt + " that are felt", some.share(0, 1), felt);
            is(69, "share(" + felt + ", 0): it is not felt", some.share(felt, 0), 0);
            is(69, "share(" + felt + ", 1): it is not felt", some.share(felt, 1), 1);
        }
        LehrBelt none = Bounds.belt(head(1, 1), Bounds.zones(5, 5));
        is(69, "share(1, 0) without pieces", none.share(1, 0), 0);
        is(69, "share(1, 1) without pieces", none.share(1, 1), 1);
        LehrBelt one = Bounds.belt(head(1, 2), Bounds.zones(200), WEAK, WEAK, WEAK, WEAK, WEAK, WEAK);
        is(69, "share(0, 0) of one", one.share(0, 0), 6);
        is(69, "share(0, 1) of one", one.share(0, 1), 1);
        LehrBelt cold = Bounds.belt(head(3, 1), Bounds.zones(100, 100, 100), Bounds.piece(0, 2, 10, 0));
        for (int z = 0; z < 3; z++) {
            is(69, "share(" + z + ", 0): below 0", cold.share(z, 0), -1);
            is(69, "share(" + z + ", 1): below 0", cold.share(z, 1), 3);
        }
        is(69, "share(0, 0) where there are none", Bounds.belt(Bounds.BARE).share(0, 0), -1_000_000);
        // "what it is with none is nobody's": it is whole whatever burns
        LehrBelt whole = Bounds.belt(head(1, 2), Bounds.zones(5, 5), Bounds.piece(0, 1, 0, 0));
        is(69, "share(0, 0) of one that never cracks", whole.share(0, 0), 0);
        is(69, "share(0, 1) of one that never cracks", whole.share(0, 1), 1);
    }

    // ---- promises 70 and 71

    /** "3 for each PIECE of an even number that never CRACKS, the other one 3 for each of an odd number, less 2". */
    private static void gets() {
        String six = Bounds.piece(200, 2, 300, 0).repeat(6);
        LehrBelt all = Bounds.belt(head(1, 2), Bounds.zones(200, 200), six);
        LehrBelt none = Bounds.belt(head(1, 2), Bounds.zones(0, 0), Bounds.piece(600, 2, 10, 0).repeat(6));
        for (int first = 0; first <= 1; first++) {
            for (int other = 0; other <= 1; other++) {
                is(71, "gets .. 0 of all", all.gets(0, 1, first, other, 0), 9 - 2 * first);
                is(71, "gets .. 1 of all", all.gets(0, 1, first, other, 1), 9 - 2 * other);
                is(71, "gets .. 0 of none: below 0", none.gets(0, 1, first, other, 0), -2 * first);
                is(71, "gets .. 1 of none: below 0", none.gets(0, 1, first, other, 1), -2 * other);
            }
        }
        is(71, "zone(0) stays", all.zone(0), 200);
        is(71, "count(7) stays", all.count(7), 0);
        // hotter by 50: 110 is borne of 160, 109 not
        LehrBelt just = Bounds.belt(head(1, 2), Bounds.zones(109, 0), Bounds.piece(200, 2, 10, 0));
        is(71, "gets: by 50 to 159", just.gets(0, 1, 1, 0, 0), 1);
        is(71, "gets: the other one has no odd piece", just.gets(0, 1, 1, 0, 1), 0);
        LehrBelt less = Bounds.belt(head(1, 2), Bounds.zones(108, 0), Bounds.piece(200, 2, 10, 0));
        is(71, "gets: by 50 to 158", less.gets(0, 1, 1, 0, 0), -2);
        less.fires(0, 1, 0);
        is(71, "gets: besides acts", less.gets(0, 1, 1, 0, 0), 1);
    }

    /** "REST: neither GETS more by the other choice alone": as much is not more. */
    private static void rests() {
        LehrBelt none = Bounds.belt(head(1, 1), Bounds.zones(0, 0));
        is(70, "rests(0, 1) without pieces: a fire costs", none.rests(0, 1), 1);
        LehrBelt all = Bounds.belt(head(1, 2), Bounds.zones(200, 200), Bounds.piece(200, 2, 300, 0).repeat(6));
        is(70, "rests(0, 1): a fire brings no more than all", all.rests(0, 1), 1);
        LehrBelt lost = Bounds.belt(head(2, 1), Bounds.zones(100, 0), Bounds.piece(150, 2, 11, 0));
        is(70, "rests(0, 1): zone 1 breaks it in any case", lost.rests(0, 1), 1);
        // zone 0 fired saves piece 0, zone 1 fired saves piece 1, each whatever the other one does
        LehrBelt both = Bounds.belt(head(2, 1), Bounds.zones(109, 60), Bounds.piece(200, 2, 10, 1),
                Bounds.piece(134, 2, 10, 0));
        is(70, "rests(0, 1): both alone", both.rests(0, 1), 8);
        LehrBelt first = Bounds.belt(head(1, 1), Bounds.zones(109, 0), Bounds.piece(200, 2, 10, 0));
        is(70, "rests(0, 1): the first one", first.rests(0, 1), 2);
        is(70, "rests(1, 0): the first one of these gains nothing", first.rests(1, 0), 1);
        LehrBelt other = Bounds.belt(head(1, 1), Bounds.zones(109, 0), Bounds.piece(0, 1, 0, 9),
                Bounds.piece(200, 2, 10, 0));
        is(70, "rests(1, 0): the other one", other.rests(1, 0), 4);
        LehrBelt pair = Bounds.belt(head(2, 1), Bounds.zones(100, 100), Bounds.piece(150, 2, 12, 0).repeat(2));
        is(70, "rests(0, 1): neither, or both", pair.rests(0, 1), 9);
        LehrBelt last = Bounds.belt(head(7, 1), Bounds.zones(200, 200, 200, 200, 200, 200, 109),
                Bounds.piece(200, 2, 10, 0));
        is(70, "rests(6, 0): zone 6", last.rests(6, 0), 2);
    }

    // ---- promises 72 and 73

    /** "FRACTIONS are told in lowest terms (0 / 1)"; odds 0 and 10 leave nothing to chance. */
    private static void chancesForSure() {
        String rest = Bounds.zones(200) + Bounds.piece(200, 2, 10, 0) + Bounds.piece(200, 1, 0, 0);
        LehrBelt never = Bounds.belt(Bounds.head(8, 0, 0, 4, 0), rest);
        LehrBelt always = Bounds.belt(Bounds.head(8, 0, 10, 4, 0), rest);
        for (int s = 1; s <= 8; s++) {
            is(72, "chance(0, " + s + ", 0) by odds 0", never.chance(0, s, 0), 1);
            is(72, "chance(0, " + s + ", 1) by odds 0", never.chance(0, s, 1), 1);
            is(72, "chance(0, " + s + ", 0) by odds 10", always.chance(0, s, 0), 0);
            is(72, "chance(0, " + s + ", 1) by odds 10", always.chance(0, s, 1), 1);
            is(72, "chance(1, " + s + ", 0) by odds 10", always.chance(1, s, 0), 1);
            is(73, "mean(" + s + ", 0) by odds 0", never.mean(s, 0), 2);
            is(73, "mean(" + s + ", 1) by odds 0", never.mean(s, 1), 1);
            is(73, "mean(" + s + ", 0) by odds 10", always.mean(s, 0), 1);
        }
        int[] above = {1, 9, 4, 7, 3, 1, 2, 3, 1, 1, 0};
        int[] below = {1, 10, 5, 10, 5, 2, 5, 10, 5, 10, 1};
        for (int odds = 0; odds <= 10; odds++) {
            LehrBelt x = Bounds.belt(Bounds.head(1, 0, odds, 4, 0), rest);
            is(72, "chance(0, 1, 0) by odds " + odds, x.chance(0, 1, 0), above[odds]);
            is(72, "chance(0, 1, 1) by odds " + odds, x.chance(0, 1, 1), below[odds]);
        }
        never.gusts(1);
        is(72, "chance(0, 1, 0): the gust is in step 1, it cracks in 2", never.chance(0, 1, 0), 1);
        is(72, "chance(0, 2, 0): those of acts come for sure", never.chance(0, 2, 0), 0);
        is(72, "count(7) stays", never.count(7), 1);
    }

    /** "(1 .. 8, one there is)". */
    private static void chancesBySteps() {
        for (int steps = 1; steps <= 9; steps++) {
            LehrBelt x = Bounds.belt(Bounds.head(steps, 0, 5, 4, 0), Bounds.zones(200, 200, 200),
                    Bounds.piece(200, 2, 10, 0), Bounds.piece(200, 2, 10, 7), Bounds.piece(200, 2, 10, 8));
            for (int s = 0; s <= 10; s++) {
                boolean such = s >= 1 && s <= 8 && s <= steps;
                is(72, "chance(0, " + s + ", 0) of " + steps, x.chance(0, s, 0), such ? 1 : -2);
                is(72, "chance(0, " + s + ", 1) of " + steps, x.chance(0, s, 1), such ? 1 << s : -2);
                is(72, "chance(1, " + s + ", 1): it comes in 7", x.chance(1, s, 1), !such ? -2 : s < 8 ? 1 : 2);
                is(72, "chance(2, " + s + ", 1): it comes in 8", x.chance(2, s, 1), such ? 1 : -2);
                is(73, "mean(" + s + ", 1) of " + steps, x.mean(s, 1), such ? 1 << s : -2);
            }
        }
        LehrBelt long8 = Bounds.belt(Bounds.head(8, 0, 3, 4, 0), Bounds.zones(200, 200), Bounds.piece(200, 2, 10, 0));
        is(72, "chance(0, 8, 0): 7 to the eighth", long8.chance(0, 8, 0), 5_764_801);
        is(72, "chance(0, 8, 1): ten to the eighth", long8.chance(0, 8, 1), 100_000_000);
    }

    private static void means() {
        LehrBelt six = Bounds.belt(Bounds.head(8, 0, 3, 4, 0), Bounds.zones(200, 200),
                Bounds.piece(200, 1, 0, 0).repeat(5), Bounds.piece(200, 2, 10, 0));
        is(73, "mean(8, 0): five and 7 to the eighth", six.mean(8, 0), 505_764_801);
        is(73, "mean(8, 1)", six.mean(8, 1), 100_000_000);
        LehrBelt none = Bounds.belt(Bounds.head(8, 0, 3, 4, 0), Bounds.zones(200));
        is(73, "mean(8, 0) without pieces", none.mean(8, 0), 0);
        is(73, "mean(8, 1) without pieces", none.mean(8, 1), 1);
        LehrBelt cracked = Bounds.belt(Bounds.head(8, 0, 3, 4, 0), COLD, WEAK);
        is(73, "mean(1, 0): all crack", cracked.mean(1, 0), 0);
        is(73, "mean(1, 1): all crack", cracked.mean(1, 1), 1);
        LehrBelt all = Bounds.belt(Bounds.head(8, 0, 10, 4, 0), Bounds.piece(200, 2, 0, 0).repeat(6));
        is(73, "mean(8, 0): all, without zones", all.mean(8, 0), 6);
    }

    // ---- promises 74 to 77

    /** "-5: there were 30 acts": of both kinds together; -2 is asked ahead; a refused one changes nothing. */
    private static void fullActs() {
        LehrBelt x = Bounds.belt(Bounds.FULL);
        for (int i = 1; i <= 30; i++) {
            Bounds.holds(74, "act " + i, (i % 2 == 0 ? x.fires(6, 1, 14) : x.gusts(13)) >= 0);
            is(74, "count(7)", x.count(7), i);
        }
        is(74, "fires the 31st", x.fires(0, 200, 0), -5);
        is(75, "gusts the 31st", x.gusts(0), -5);
        is(74, "count(7) stays", x.count(7), 30);
        is(74, "air(0, 0) stays", x.air(0, 0), 600);
        is(75, "air(0, 13) stays", x.air(0, 13), 520);
        is(74, "air(6, 14) stays", x.air(6, 14), 15);
        is(74, "fires: -2 ahead of -5 (zone)", x.fires(7, 1, 0), -2);
        is(74, "fires: -2 ahead of -5 (n)", x.fires(0, 201, 0), -2);
        is(74, "fires: -2 ahead of -5 (n)", x.fires(0, 0, 0), -2);
        is(74, "fires: -2 ahead of -5 (step)", x.fires(0, 1, 15), -2);
        is(75, "gusts: -2 ahead of -5", x.gusts(14), -2);
        x.image(0);
        is(76, "undo() of 30", x.undo(), 29);
        Bounds.holds(74, "there is room for one again", x.gusts(0) >= 0);
        is(74, "fires the 31st again", x.fires(0, 1, 0), -5);
        is(77, "anew() of 30", x.anew(), 30);
        Bounds.holds(74, "there is room again", x.fires(0, 1, 0) >= 0);
        is(83, "back(0) to 30 acts", x.back(0), 0);
        is(83, "count(7)", x.count(7), 30);
        is(74, "fires the 31st of the image", x.fires(0, 1, 0), -5);
        Checks.tell(x, Bounds.FULL);
        Bounds.holds(74, "there is room in a new lehr", x.fires(0, 1, 0) >= 0);
    }

    private static void firesAndGusts() {
        LehrBelt x = Bounds.belt(head(2, 4), Bounds.zones(159, 0), Bounds.piece(200, 2, 10, 0),
                Bounds.piece(200, 2, 10, 1), Bounds.piece(0, 1, 0, 14));
        is(74, "fires(0, 1, 2): in the last step, felt by none", x.fires(0, 1, 2), 3);
        is(75, "gusts(1): the last but one", x.gusts(1), 1);
        is(75, "gusts(2): the last", x.gusts(2), -2);
        is(74, "fires(0, 200, 1): too late for the strain of both", x.fires(0, 200, 1), 1);
        is(76, "undo()", x.undo(), 2);
        is(74, "fires(0, 80, 1): against the gust", x.fires(0, 80, 1), 3);
        is(75, "gusts(0)", x.gusts(0), 2);
        is(74, "fires(1, 200, 0): another zone", x.fires(1, 200, 0), 2);
        LehrBelt none = Bounds.belt(Bounds.BARE, Bounds.zones(5));
        is(74, "fires(0, 1, 0) without pieces", none.fires(0, 1, 0), 0);
        is(75, "gusts(0) without pieces", none.gusts(0), 0);
        LehrBelt noZones = Bounds.belt(Bounds.BARE, WEAK);
        is(75, "gusts(1) without zones", noZones.gusts(1), 1);
        is(74, "fires(0, 1, 0) without zones", noZones.fires(0, 1, 0), -2);
        is(74, "count(7): the refused one is none", noZones.count(7), 1);
    }

    /** "how many there are. -5: there is none"; "All are: how many there were". */
    private static void actsTakenBack() {
        LehrBelt x = Bounds.belt(head(3, 4), Bounds.zones(100));
        is(76, "undo(): there is none", x.undo(), -5);
        is(77, "anew(): 0 there were", x.anew(), 0);
        x.gusts(1);
        x.gusts(1);
        x.fires(0, 10, 1);
        x.fires(0, 10, 3);
        x.gusts(0);
        int[] left = {4, 3, 2, 1, 0, -5, -5};
        int[] air0 = {100, 100, 100, 100, 100, 100, 100};
        int[] air1 = {30, 30, 20, 20, 100, 100, 100};
        int[] air3 = {120, 110, 100, 100, 100, 100, 100};
        for (int i = 0; i < left.length; i++) {
            is(76, "undo()", x.undo(), left[i]);
            is(76, "count(7)", x.count(7), Math.max(0, left[i]));
            is(76, "air(0, 0)", x.air(0, 0), air0[i]);
            is(76, "air(0, 1)", x.air(0, 1), air1[i]);
            is(76, "air(0, 3)", x.air(0, 3), air3[i]);
        }
        LehrBelt seven = Bounds.belt(head(2, 1), Bounds.zones(100, 100, 100, 100, 100, 100, 100));
        for (int z = 0; z < 7; z++) {
            seven.fires(z, 7, 1);
            is(76, "air(" + z + ", 1) by a fire", seven.air(z, 1), 107);
            is(76, "undo() of a fire in zone " + z, seven.undo(), 0);
            is(76, "air(" + z + ", 1)", seven.air(z, 1), 100);
            is(76, "air(" + (z + 1) % 7 + ", 1)", seven.air((z + 1) % 7, 1), 100);
        }
        x.fires(0, 10, 0);
        x.gusts(2);
        is(77, "anew(): how many there were", x.anew(), 2);
        is(77, "anew() again", x.anew(), 0);
        is(77, "undo() behind anew()", x.undo(), -5);
        is(77, "air(0, 0)", x.air(0, 0), 100);
        is(77, "air(0, 2)", x.air(0, 2), 100);
        LehrBelt none = new LehrBelt();
        is(76, "undo() without a lehr: -2 ahead of -5", none.undo(), -2);
        is(77, "anew() without a lehr", none.anew(), -2);
    }

    /** Each change is followed at once, whatever was asked ahead of it. */
    private static void courseOfEachChange() {
        LehrBelt x = Bounds.belt(head(1, 2), COLD, WEAK);
        cracksNow(x, "told", 1);
        x.rate(0, 50);
        cracksNow(x, "rate(0, 50)", 0);
        x.image(0);
        x.rate(0, 49);
        cracksNow(x, "rate(0, 49)", 1);
        x.back(0);
        cracksNow(x, "back(0)", 0);
        x.rate(0, 10);
        x.image(1);
        cracksNow(x, "rate(0, 10)", 1);
        x.fires(0, 200, 0);
        cracksNow(x, "fires(0, 200, 0)", 0);
        x.gusts(0);
        cracksNow(x, "gusts(0)", 1);
        x.undo();
        cracksNow(x, "undo()", 0);
        x.anew();
        cracksNow(x, "anew()", 1);
        Checks.tell(x, head(1, 2) + Bounds.zones(200) + WEAK);
        cracksNow(x, "lehr()", 0);
        x.back(1);
        cracksNow(x, "back(1)", 1);
        Checks.tell(x, "zone");
        cracksNow(x, "lehr() with a fault", 1);
    }

    private static void cracksNow(LehrBelt x, String change, int why) {
        is(20, "cracks(0) behind " + change, x.cracks(0), why == 0 ? -1 : 1);
        is(21, "why(0) behind " + change, x.why(0), why);
        is(23, "sound() behind " + change, x.sound(), 1 - why);
        is(47, "tally(1) behind " + change, x.tally(1), why);
        is(28, "worst() behind " + change, x.worst(), why == 0 ? -1 : 1);
    }

    // ---- promises 78 and 79

    private static int draughtsOf(long seed, int steps, int odds) {
        BigInteger x = BigInteger.valueOf(seed);
        int bits = 0;
        for (int s = 0; s < steps; s++) {
            x = x.multiply(BigInteger.valueOf(1103515245)).add(BigInteger.valueOf(12345))
                    .mod(BigInteger.TWO.pow(31));
            int draw = x.divide(BigInteger.valueOf(65536)).mod(BigInteger.TEN).intValue();
            bits |= draw < odds ? 1 << s : 0;
        }
        return bits;
    }

    /** "STEP by STEP ahead of the last a draw: below odds there is a GUST in it"; no product may wrap around. */
    private static void draughts() {
        int[] seeds = {0, 1, 2, 65_535, 65_536, 999_999_999, 1_073_741_824, 1_999_999_999, 2_000_000_000};
        for (int steps : new int[] {1, 2, 13, 14}) {
            for (int odds = 0; odds <= 10; odds++) {
                LehrBelt x = Bounds.belt(Bounds.head(steps, 0, odds, 4, 0), Bounds.zones(200, 200, 200, 200),
                        Bounds.piece(200, 2, 10, 0), Bounds.piece(200, 1, 10, 0), Bounds.piece(200, 2, 10, 14));
                for (int seed : seeds) {
                    int bits = draughtsOf(seed, steps, odds);
                    is(78, "drawn(" + seed + ", 0) by odds " + odds, x.drawn(seed, 0), bits);
                    is(78, "drawn(" + seed + ", 1) by odds " + odds, x.drawn(seed, 1), bits == 0 ? 7 : 6);
                }
            }
        }
        LehrBelt all = Bounds.belt(Bounds.head(14, 0, 10, 1, 0));
        is(78, "drawn(0, 0) by odds 10: not in the last step", all.drawn(0, 0), (1 << 14) - 1);
        is(78, "drawn(0, 1) without pieces", all.drawn(0, 1), 0);
        LehrBelt acts = Bounds.belt(Bounds.head(2, 0, 0, 1, 0), Bounds.zones(200, 200), WEAK);
        acts.gusts(1);
        is(78, "drawn(0, 0): by the draught alone", acts.drawn(0, 0), 0);
        is(78, "drawn(0, 1): gusts of acts come besides", acts.drawn(0, 1), 0);
        is(78, "count(7) stays", acts.count(7), 1);
        is(78, "air(0, 0) stays", acts.air(0, 0), 200);
    }

    /** "Of n (1 .. 20) such from seeds, the seed and 1, ..". */
    private static void luckOfSeeds() {
        LehrBelt x = Bounds.belt(Bounds.head(2, 0, 3, 4, 0), Bounds.zones(200), WEAK, Bounds.piece(200, 1, 10, 0));
        for (int seed : new int[] {0, 1, 1_999_999_980, 1_999_999_981, 2_000_000_000}) {
            int lucky = 0;
            for (int n = 1; n <= 20; n++) {
                lucky += draughtsOf((long) seed + n - 1, 2, 3) == 0 ? 1 : 0;
                is(79, "luck(" + seed + ", " + n + ", 0)", x.luck(seed, n, 0), lucky);
                is(79, "luck(" + seed + ", " + n + ", 1)", x.luck(seed, n, 1), n);
            }
        }
        x.gusts(0);
        is(79, "luck(0, 20, 0): gusts of acts come besides", x.luck(0, 20, 0), 0);
        is(79, "luck(0, 20, 1)", x.luck(0, 20, 1), 20);
    }

    // ---- promises 80 and 81

    /** "-5: there are acts (not taken back)"; what is refused changes nothing. */
    private static void rates() {
        LehrBelt x = Bounds.belt(head(1, 2), COLD, Bounds.piece(200, 2, 50, 0));
        is(80, "rate(0, 300): what it bore", x.rate(0, 300), 50);
        is(80, "rate(0, 0): what it bore", x.rate(0, 0), 300);
        is(80, "cracks(0)", x.cracks(0), 1);
        is(80, "rate(0, 50): what it bore", x.rate(0, 50), 0);
        is(80, "cracks(0)", x.cracks(0), -1);
        for (int n : new int[] {-1, 301, Bounds.MIN, Bounds.MAX}) {
            is(80, "rate(0, " + n + ")", x.rate(0, n), -2);
            is(80, "piece(0, 2) stays", x.piece(0, 2), 50);
        }
        x.fires(0, 1, 0);
        is(80, "rate(0, 60): there are acts", x.rate(0, 60), -5);
        is(80, "piece(0, 2) stays", x.piece(0, 2), 50);
        is(80, "rate(1, 60): -2 ahead of -5", x.rate(1, 60), -2);
        is(80, "rate(0, 301): -2 ahead of -5", x.rate(0, 301), -2);
        x.undo();
        is(80, "rate(0, 60): it was taken back", x.rate(0, 60), 50);
        x.gusts(0);
        is(80, "rate(0, 70): there is a gust", x.rate(0, 70), -5);
        x.anew();
        is(80, "rate(0, 70): all were taken back", x.rate(0, 70), 60);
    }

    private static void counts() {
        LehrBelt x = Bounds.belt(Bounds.head(14, 3, 10, 4, 600), Bounds.zones(1, 1, 1, 1, 1, 1, 1),
                Bounds.piece(1, 1, 1, 1).repeat(6));
        int[] most = {14, 3, 10, 4, 600, 7, 6, 30, 14, 600, 4};
        for (int i = 0; i < 30; i++) {
            x.gusts(i % 14);
            x.feed(0, 0, 0, 0, 0);
            x.row(i % 4, 0, 0);
        }
        for (int what = 0; what <= 10; what++) {
            is(81, "count(" + what + ") at its most", x.count(what), most[what]);
        }
        LehrBelt least = Bounds.belt(Bounds.head(1, 0, 0, 1, 0));
        int[] few = {1, 0, 0, 1, 0, 0, 0, 0, 1, 0, 0};
        for (int what = 0; what <= 10; what++) {
            is(81, "count(" + what + ") at its least", least.count(what), few[what]);
        }
        for (int what : new int[] {-1, 11, Bounds.MIN, Bounds.MAX}) {
            is(81, "count(" + what + ") without a lehr", new LehrBelt().count(what), -1);
        }
    }

    // ---- promises 82 and 83

    /** "-6: it has nothing"; an image of no lehr is one. */
    private static void images() {
        LehrBelt x = new LehrBelt();
        for (int k : new int[] {-1, 3, Bounds.MIN, Bounds.MAX}) {
            is(82, "image(" + k + ")", x.image(k), -2);
            is(83, "back(" + k + ")", x.back(k), -2);
        }
        for (int k = 0; k < 3; k++) {
            is(83, "back(" + k + "): it has nothing", x.back(k), -6);
        }
        is(82, "image(0) of no lehr", x.image(0), 0);
        is(83, "back(0) to no lehr", x.back(0), 0);
        is(83, "sound() of no lehr", x.sound(), -2);
        Checks.tell(x, Bounds.SMALL);
        is(83, "back(1): it has nothing, still", x.back(1), -6);
        is(83, "count(8) stays", x.count(8), 4);
        x.image(1);
        Checks.tell(x, Bounds.FULL);
        x.image(2);
        is(83, "back(1)", x.back(1), 0);
        is(83, "count(8) of image 1", x.count(8), 4);
        is(83, "back(2)", x.back(2), 0);
        is(83, "count(8) of image 2", x.count(8), 14);
        is(83, "back(0)", x.back(0), 0);
        is(83, "count(8) of image 0", x.count(8), 0);
        is(83, "fires of no lehr", x.fires(0, 1, 0), -2);
        is(83, "back(1) again: the image is kept", x.back(1), 0);
        is(83, "zone(1)", x.zone(1), 100);
        is(82, "image(2) in place of another", x.image(2), 0);
        x.back(0);
        is(83, "back(2)", x.back(2), 0);
        is(83, "count(8) of the latest image 2", x.count(8), 4);
        x.feed(0, 0, 0, 0, 0);
        x.row(0, 0, 1);
        x.back(1);
        is(83, "count(9): the tape stays", x.count(9), 20);
        is(83, "count(10): slots stay", x.count(10), 1);
    }

    private static void imagesOfActs() {
        LehrBelt x = Bounds.belt(head(2, 4), Bounds.zones(200, 100), Bounds.piece(200, 2, 40, 0));
        x.rate(0, 10);
        x.fires(0, 20, 1);
        x.gusts(0);
        x.image(0);
        is(82, "image(0): nothing is changed by it", x.count(7), 2);
        x.anew();
        x.rate(0, 300);
        x.gusts(1);
        x.fires(1, 7, 2);
        is(83, "back(0)", x.back(0), 0);
        is(83, "piece(0, 2) of the image", x.piece(0, 2), 10);
        is(83, "count(7) of the image", x.count(7), 2);
        is(83, "air(0, 0) of the image", x.air(0, 0), 120);
        is(83, "air(0, 1) of the image", x.air(0, 1), 220);
        is(83, "cracks(0) of the image", x.cracks(0), 1);
        is(83, "rate(0, 5): there are acts", x.rate(0, 5), -5);
        is(83, "undo() of the image's gust", x.undo(), 1);
        is(83, "air(0, 0)", x.air(0, 0), 200);
        is(83, "cracks(0)", x.cracks(0), -1);
        is(83, "undo() of the image's fire", x.undo(), 0);
        is(83, "air(0, 0)", x.air(0, 0), 200);
        is(83, "air(0, 1)", x.air(0, 1), 200);
        is(83, "air(0, 2)", x.air(0, 2), 200);
        is(83, "air(1, 2)", x.air(1, 2), 100);
        is(83, "undo()", x.undo(), -5);
        is(83, "back(0): the image is as it was", x.back(0), 0);
        is(83, "count(7) of the image, again", x.count(7), 2);
        x.anew();
        x.gusts(1);
        x.gusts(1);
        x.gusts(0);
        x.back(0);
        x.fires(1, 1, 1);
        is(83, "undo() of an act behind the image's", x.undo(), 2);
        x.gusts(1);
        is(83, "undo(): the image's gust stays where it was", x.undo(), 2);
        is(83, "air(0, 1) without a gust", x.air(0, 1), 220);
        is(83, "air(0, 0) of the image, again", x.air(0, 0), 120);
    }

    /** "An object is used for at most 512 calls": the last of them is answered as the first, be they as dear as can be. */
    private static void manyCalls() {
        // beside five of 100 each goes to a mean of 83 in a zone that does not burn: strain 4
        String text = Bounds.head(14, 2, 5, 1, 0) + Bounds.zones(100, 100, 100, 100, 100, 100, 100)
                + Bounds.piece(100, 2, 3, 0).repeat(6);
        LehrBelt x = Bounds.belt(text);
        long mean = x.mean(8, 0);
        int calls = text.length() / 20 + 4;
        for (; calls <= 510; calls += 2) {
            is(69, "share(6, 0) of six that all zones save", x.share(6, 0), 6);
            is(73, "mean(8, 0) again", x.mean(8, 0), mean);
        }
    }
}
