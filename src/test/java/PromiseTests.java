/**
 * Each promise of the document with answers worked out by hand: what is usual, the edges it names,
 * and what there is not. The lehr of most of them, step by step:
 *
 * <pre>
 * step     0    1    2    3    4    5    6    7    8
 * skin 0  600  580  570  485  443  322                 cracks in 5 by strain 83, more than 60
 * core 0  600  590  580  533  488  405
 * skin 1  580  580  570  565  483  442  321            comes in 1, cracks in 6 by strain 153, more than 90
 * core 1  580  580  578  575  552  525  474
 * skin 2  600  600  600  600  580  570  485  443  322  comes in 3; its core is as its skin
 * skin 3  600  580  570  485  443  322  261            cracks in 6, when it is out, by 45 frozen in 4
 * core 3  600  590  580  533  488  405  333
 * skin 4  100                                          never comes
 * skin 5  300  430  495  448  424  312  256            out in 6, never cracks
 * core 5  300  314  334  346  354  350  340
 * </pre>
 */
public final class PromiseTests {
    private static final String BELT = "lehr steps 8 law 0 odds 3 pace 2 set 500;\n"
            + "zone 560; zone 400; zone 200;\n"
            + "piece heat 600 thick 2 bears 60 at 0; piece heat 580 thick 4 bears 90 at 1;\n"
            + "piece heat 600 thick 1 bears 10 at 3; piece heat 600 thick 2 bears 85 at 0;\n"
            + "piece heat 100 thick 3 bears 0 at 9; piece heat 300 thick 9 bears 300 at 0;\n";

    private static final String BARE = "lehr steps 3 law 2 odds 1 pace 4 set 7;";

    private static final int MAX = Integer.MAX_VALUE;
    private static final int MIN = Integer.MIN_VALUE;

    private PromiseTests() { }

    public static void main(String[] args) {
        anew();
        tape();
        lehrs();
        faults();
        manyFaults();
        told();
        places();
        skins();
        laws();
        strains();
        cracks();
        piecesByStep();
        worstAndSore();
        stepsOfPieces();
        zones();
        fallsOfSkin();
        morePieces();
        useOfZones();
        strength();
        paces();
        raises();
        swapsAndSkips();
        seenAir();
        seenThickAndLaw();
        lawsInPlace();
        shares();
        games();
        chances();
        means();
        acts();
        actsTakenBack();
        draughts();
        rates();
        counts();
        images();
        rows();
        pastes();
        withoutZonesOrPieces();
        Checks.close("PromiseTests");
    }

    private static LehrBelt belt() {
        return Checks.told(BELT);
    }

    private static void is(int promise, String call, long got, long want) {
        Checks.is("promise " + promise + ": " + call, got, want);
    }

    private static void anew() {
        LehrBelt x = new LehrBelt();
        is(1, "NONE", LehrBelt.NONE, -1);
        for (int what = 0; what <= 10; what++) {
            is(1, "count(" + what + ")", x.count(what), 0);
        }
        is(1, "zone(0)", x.zone(0), -2);
        is(1, "piece(0, 0)", x.piece(0, 0), -2);
        is(1, "sound()", x.sound(), -2);
        is(1, "out(0)", x.out(0), -2);
    }

    private static void tape() {
        LehrBelt x = new LehrBelt();
        is(2, "feed", x.feed(1, 2, 3, 4, 5), 20);
        is(3, "end(20)", x.end(20), 20);
        is(3, "end(21)", x.end(21), -1);
        is(3, "end(-1)", x.end(-1), -1);
        is(3, "count(9)", x.count(9), 20);
        is(3, "end(0)", x.end(0), 0);
        is(3, "count(9)", x.count(9), 0);
        for (int i = 1; i <= 30; i++) {
            is(2, "feed the " + i + "th", x.feed(0, 0, 0, 0, 0), 20 * i);
        }
        is(2, "feed beyond 600", x.feed(0, 0, 0, 0, 0), -1);
        is(2, "count(9)", x.count(9), 600);
        is(3, "end(581)", x.end(581), 581);
        is(2, "feed beyond 600", x.feed(0, 0, 0, 0, 0), -1);
        is(3, "end(580)", x.end(580), 580);
        is(2, "feed to 600", x.feed(0, 0, 0, 0, 0), 600);
        // "lehr" is 6c 65 68 72: the highest byte stands first
        x.end(0);
        x.feed(0x6c656872, 0x20202020, 0x20202020, 0x20202020, 0x2020203b);
        is(2, "lehr() of 'lehr .. ;'", x.lehr(), -4);
        is(2, "fault(1): steps is missing where ; stands", x.fault(1), 19);
        Checks.feed(x, BARE);
        x.end(BARE.length() - 1);
        is(3, "lehr() without the last ;", x.lehr(), -4);
    }

    private static void lehrs() {
        LehrBelt x = new LehrBelt();
        is(4, "lehr()", Checks.tell(x, BELT), 10);
        is(4, "count(9)", x.count(9), 0);
        x.fires(0, 5, 1);
        is(4, "lehr() in place of another", Checks.tell(x, BARE), 1);
        is(4, "count(7): nothing done", x.count(7), 0);
        is(4, "count(0)", x.count(0), 3);
        is(4, "count(6)", x.count(6), 0);
        x.gusts(0);
        is(4, "lehr() with a fault", Checks.tell(x, "lehr steps 5"), -4);
        is(4, "count(9)", x.count(9), 0);
        is(4, "count(7): all else stays", x.count(7), 1);
        is(4, "count(0): all else stays", x.count(0), 3);
        is(4, "lehr() of blanks", Checks.tell(x, " \n "), 0);
        is(4, "sound()", x.sound(), -2);
        is(4, "count(7)", x.count(7), 0);
        is(4, "fires", x.fires(0, 5, 0), -2);
        is(4, "tokens without blanks", Checks.tell(x, "lehr steps03law 0odds10pace4set600;zone0;piece heat 600"
                + "thick9bears 300at14;"), 3);
        is(4, "zone(0)", x.zone(0), 0);
        is(4, "count(0)", x.count(0), 3);
    }

    private static void fault(String text, int fault, int place) {
        LehrBelt x = new LehrBelt();
        is(4, "lehr() of " + text, Checks.tell(x, text), -4);
        is(5, "fault(0) of " + text, x.fault(0), fault);
        is(5, "fault(1) of " + text, x.fault(1), place);
        is(4, "sound() of " + text, x.sound(), -2);
    }

    private static void faults() {
        LehrBelt x = new LehrBelt();
        is(5, "fault(0) ahead of any", x.fault(0), 0);
        is(5, "fault(1) ahead of any", x.fault(1), -1);
        is(5, "fault(2)", x.fault(2), -1);
        is(5, "fault(-1)", x.fault(-1), -1);
        Checks.tell(x, "lehr; ");
        is(5, "fault(0)", x.fault(0), 1);
        is(5, "fault(1)", x.fault(1), 4);
        is(5, "fault(2)", x.fault(2), -1);
        Checks.tell(x, BARE);
        is(5, "fault(0) of the latest", x.fault(0), 0);
        is(5, "fault(1) of the latest", x.fault(1), -1);
        fault("lehr steps 5", 1, 12);
        fault("lehr steps 5  \n", 1, 15);
        fault("zone 5;", 1, 0);
        fault("zones 5;", 1, 0);
        fault(";", 1, 0);
        fault("xehr steps 3", 1, 0);
        fault("lehx steps 3", 1, 0);
        fault("leh steps 3", 1, 0);
        fault("lehrs steps 3", 1, 0);
        fault(" 7", 1, 1);
        fault("Lehr steps 3", 1, 0);
        fault("lehr\tsteps", 1, 4);
        fault("lehr steps x", 1, 11);
        fault("lehr stepsx 3", 1, 5);
        fault("lehr steps ; ", 1, 11);
        fault("lehr steps 3x law", 1, 12);
        fault("lehr steps -3", 1, 11);
        fault("lehr steps 0", 2, 11);
        fault("lehr steps 15 law", 2, 11);
        fault("lehr steps 99999999999999999999", 2, 11);
        fault("lehr steps 4294967297", 2, 11);
        fault("lehr steps 3 law 4", 2, 17);
        fault("lehr steps 3 law 3 odds 11", 2, 24);
        fault("lehr steps 3 law 3 odds 10 pace 0", 2, 32);
        fault("lehr steps 3 law 3 odds 10 pace 5", 2, 32);
        fault("lehr steps 3 law 3 odds 10 pace 4 set 601", 2, 38);
        fault(BARE + BARE, 1, BARE.length());
        fault(BARE + "lehr", 1, BARE.length());
        fault(BARE + "5", 1, BARE.length());
        fault(BARE + ";", 1, BARE.length());
        fault(BARE + "\u00e9", 1, BARE.length());
    }

    private static void manyFaults() {
        int n = BARE.length();
        fault(BARE + "zone 601;", 2, n + 5);
        fault(BARE + "zone;", 1, n + 4);
        fault(BARE + "zone 5 5;", 1, n + 7);
        fault(BARE + "piece heat 601", 2, n + 11);
        fault(BARE + "piece thick 1", 1, n + 6);
        fault(BARE + "piece heat 1 thick 0", 2, n + 19);
        fault(BARE + "piece heat 1 thick 10", 2, n + 19);
        fault(BARE + "piece heat 1 thick 9 bears 301", 2, n + 27);
        fault(BARE + "piece heat 1 thick 9 bears 300 at 15", 2, n + 34);
        fault(BARE + "piece heat 1 thick 9 bears 300 at 14 zone", 1, n + 37);
        String zones = BARE + "zone 1;zone 2;zone 3;zone 4;zone 5;zone 6;zone 7;";
        is(4, "seven zones", Checks.told(zones).count(5), 7);
        fault(zones + "zone 601;", 3, zones.length());
        fault(zones + " zone", 3, zones.length() + 1);
        fault(zones + "zones", 1, zones.length());
        StringBuilder pieces = new StringBuilder(BARE);
        for (int i = 0; i < 6; i++) {
            pieces.append("piece heat 1 thick 1 bears 1 at 1;");
        }
        is(4, "six pieces", Checks.told(pieces.toString()).count(6), 6);
        fault(pieces + "piece", 3, pieces.length());
        fault(pieces + "zone 700;", 2, pieces.length() + 5);
    }

    private static void told() {
        LehrBelt x = belt();
        is(6, "zone(0)", x.zone(0), 560);
        is(6, "zone(2)", x.zone(2), 200);
        is(6, "zone(3)", x.zone(3), -2);
        is(6, "zone(-1)", x.zone(-1), -2);
        x.fires(0, 9, 0);
        is(6, "zone(0) as told", x.zone(0), 560);
        is(7, "piece(1, 0)", x.piece(1, 0), 580);
        is(7, "piece(1, 1)", x.piece(1, 1), 4);
        is(7, "piece(1, 2)", x.piece(1, 2), 90);
        is(7, "piece(4, 3)", x.piece(4, 3), 9);
        is(7, "piece(1, 4)", x.piece(1, 4), -2);
        is(7, "piece(1, -1)", x.piece(1, -1), -2);
        is(7, "piece(6, 0)", x.piece(6, 0), -2);
        is(7, "piece(-1, 0)", x.piece(-1, 0), -2);
    }

    private static void places() {
        LehrBelt x = belt();
        is(8, "air(1, 8)", x.air(1, 8), 400);
        is(8, "air(3, 0)", x.air(3, 0), -2);
        is(8, "air(0, 9)", x.air(0, 9), -2);
        is(8, "air(0, -1)", x.air(0, -1), -2);
        is(9, "where(1, 0)", x.where(1, 0), -1);
        is(9, "where(1, 1)", x.where(1, 1), 0);
        is(9, "where(1, 2)", x.where(1, 2), 0);
        is(9, "where(1, 3)", x.where(1, 3), 1);
        is(9, "where(1, 6)", x.where(1, 6), 2);
        is(9, "where(1, 7)", x.where(1, 7), 10);
        is(9, "where(4, 8)", x.where(4, 8), -1);
        is(9, "where(6, 0)", x.where(6, 0), -2);
        is(9, "where(0, 9)", x.where(0, 9), -2);
        is(9, "where(0, -1)", x.where(0, -1), -2);
        is(10, "inside(0, 0)", x.inside(0, 0), 41);
        is(10, "inside(0, 1)", x.inside(0, 1), 43);
        is(10, "inside(2, 5): a cracked one, too", x.inside(2, 5), 43);
        is(10, "inside(2, 0)", x.inside(2, 0), 0);
        is(10, "inside(3, 0)", x.inside(3, 0), -2);
        is(10, "inside(10, 8)", x.inside(10, 8), -2);
        is(10, "inside(-1, 0)", x.inside(-1, 0), -2);
        is(10, "inside(0, 9)", x.inside(0, 9), -2);
        is(11, "out(5)", x.out(5), 0);
        is(11, "out(6)", x.out(6), 41);
        is(11, "out(8)", x.out(8), 43);
        is(11, "out(9)", x.out(9), -2);
        is(11, "out(-1)", x.out(-1), -2);
        is(12, "leaves(0)", x.leaves(0), 6);
        is(12, "leaves(1)", x.leaves(1), 7);
        is(12, "leaves(2)", x.leaves(2), -1);
        is(12, "leaves(4)", x.leaves(4), -1);
        is(12, "leaves(6)", x.leaves(6), -2);
        is(12, "leaves(-1)", x.leaves(-1), -2);
    }

    private static void skins() {
        LehrBelt x = belt();
        int[][] skin = {{600, 580, 570, 485, 443, 322, 322, 322, 322}, {580, 580, 570, 565, 483, 442, 321, 321, 321},
            {600, 600, 600, 600, 580, 570, 485, 443, 322}, {600, 580, 570, 485, 443, 322, 261, 261, 261},
            {100, 100, 100, 100, 100, 100, 100, 100, 100}, {300, 430, 495, 448, 424, 312, 256, 256, 256}};
        int[][] core = {{600, 590, 580, 533, 488, 405, 405, 405, 405}, {580, 580, 578, 575, 552, 525, 474, 474, 474},
            {600, 600, 600, 600, 580, 570, 485, 443, 322}, {600, 590, 580, 533, 488, 405, 333, 333, 333},
            {100, 100, 100, 100, 100, 100, 100, 100, 100}, {300, 314, 334, 346, 354, 350, 340, 340, 340}};
        for (int p = 0; p < 6; p++) {
            for (int s = 0; s <= 8; s++) {
                is(13, "skin(" + p + ", " + s + ")", x.skin(p, s), skin[p][s]);
                is(14, "core(" + p + ", " + s + ")", x.core(p, s), core[p][s]);
                is(15, "strain(" + p + ", " + s + ")", x.strain(p, s), Math.abs(skin[p][s] - core[p][s]));
            }
        }
        is(13, "skin(6, 0)", x.skin(6, 0), -2);
        is(13, "skin(0, 9)", x.skin(0, 9), -2);
        is(13, "skin(0, -1)", x.skin(0, -1), -2);
        is(14, "core(-1, 0)", x.core(-1, 0), -2);
        is(14, "core(0, 9)", x.core(0, 9), -2);
        is(15, "strain(6, 0)", x.strain(6, 0), -2);
        is(15, "strain(0, 9)", x.strain(0, 9), -2);
    }

    /** A piece of 600 in 201: it falls by 199, 133 and 60, and beside one of 300, in a mean of 250, by 175. */
    private static void laws() {
        int[] far = {199, 60, 175, 133};
        for (int law = 0; law <= 3; law++) {
            LehrBelt x = Checks.told("lehr steps 1 law " + law + " odds 0 pace 1 set 0; zone 201;"
                    + "piece heat 600 thick 1 bears 0 at 0; piece heat 300 thick 1 bears 0 at 0;"
                    + "piece heat 50 thick 1 bears 0 at 1;");
            is(13, "skin(0, 1) by law " + law, x.skin(0, 1), 600 - far[law]);
        }
        LehrBelt warm = Checks.told("lehr steps 2 law 1 odds 0 pace 2 set 0; zone 600;"
                + "piece heat 401 thick 3 bears 300 at 0;");
        is(13, "skin(0, 1): 60 at most", warm.skin(0, 1), 461);
        is(14, "core(0, 1)", warm.core(0, 1), 421);
        is(13, "skin(0, 2): 60 at most", warm.skin(0, 2), 521);
        LehrBelt near = Checks.told("lehr steps 1 law 1 odds 0 pace 2 set 0; zone 482;"
                + "piece heat 600 thick 9 bears 300 at 0;");
        is(13, "skin(0, 1): half, as that is less than 60", near.skin(0, 1), 541);
        // piece 1 cracks in step 1 at 300, and stays there as one of those around piece 0
        LehrBelt beside = Checks.told("lehr steps 2 law 2 odds 0 pace 2 set 0; zone 100;"
                + "piece heat 400 thick 1 bears 0 at 0; piece heat 400 thick 9 bears 0 at 0;");
        is(13, "skin(1, 1)", beside.skin(1, 1), 325);
        is(20, "cracks(1)", beside.cracks(1), 1);
        is(13, "skin(0, 2): mean 212", beside.skin(0, 2), 325 - 56);
        is(13, "skin(1, 2)", beside.skin(1, 2), 325);
    }

    private static void strains() {
        LehrBelt x = belt();
        is(16, "peak(0)", x.peak(0), 83);
        is(16, "peak(1)", x.peak(1), 153);
        is(16, "peak(4)", x.peak(4), 0);
        is(16, "peak(6)", x.peak(6), -2);
        is(16, "peak(-1)", x.peak(-1), -2);
        is(17, "when(0): the first of those with 83", x.when(0), 5);
        is(17, "when(5)", x.when(5), 2);
        is(17, "when(4)", x.when(4), 0);
        is(17, "when(6)", x.when(6), -2);
        is(18, "frozen(0)", x.frozen(0), 45);
        is(18, "frozen(1): in the step in which it cracks", x.frozen(1), 153);
        is(18, "frozen(2): 0 is something", x.frozen(2), 0);
        is(18, "frozen(5)", x.frozen(5), -1);
        is(18, "frozen(6)", x.frozen(6), -2);
        is(19, "sets(0)", x.sets(0), 4);
        is(19, "sets(1)", x.sets(1), 6);
        is(19, "sets(2)", x.sets(2), 6);
        is(19, "sets(5): below set all along", x.sets(5), -1);
        is(19, "sets(-1)", x.sets(-1), -2);
        // it sets in step 1 (core 150, strain 50), is warmed above set again (325, 217), and sets in 4 anew
        LehrBelt twice = Checks.told("lehr steps 4 law 0 odds 0 pace 1 set 200; zone 0; zone 500; zone 0; zone 0;"
                + "piece heat 200 thick 2 bears 300 at 0;");
        is(14, "core(0, 1)", twice.core(0, 1), 150);
        is(14, "core(0, 2)", twice.core(0, 2), 225);
        is(14, "core(0, 3)", twice.core(0, 3), 188);
        is(18, "frozen(0): in place of what was", twice.frozen(0), 38);
        is(19, "sets(0): the latest", twice.sets(0), 3);
        // a core just at set has not set yet
        LehrBelt just = Checks.told("lehr steps 2 law 0 odds 0 pace 2 set 150; zone 100;"
                + "piece heat 200 thick 1 bears 300 at 0;");
        is(14, "core(0, 1)", just.core(0, 1), 150);
        is(19, "sets(0)", just.sets(0), 2);
    }

    private static void cracks() {
        LehrBelt x = belt();
        int[] step = {5, 6, -1, 6, -1, -1, -2};
        int[] why = {1, 1, 0, 2, 0, 0, -2};
        for (int p = 0; p <= 6; p++) {
            is(20, "cracks(" + p + ")", x.cracks(p), step[p]);
            is(21, "why(" + p + ")", x.why(p), why[p]);
        }
        is(20, "cracks(-1)", x.cracks(-1), -2);
        is(21, "why(-1)", x.why(-1), -2);
        // strain 50 in step 1, when it is out: more than it bears goes ahead of what is frozen
        String text = "lehr steps 1 law 0 odds 0 pace 1 set 200; zone 0; piece heat 200 thick 2 bears ";
        is(21, "why(0): bears 49", Checks.told(text + "49 at 0;").why(0), 1);
        is(21, "why(0): bears 50", Checks.told(text + "50 at 0;").why(0), 2);
        is(21, "why(0): bears 99, half of it 49", Checks.told(text + "99 at 0;").why(0), 2);
        is(21, "why(0): bears 100", Checks.told(text + "100 at 0;").why(0), 0);
        is(20, "cracks(0): bears 99", Checks.told(text + "99 at 0;").cracks(0), 1);
    }

    private static void piecesByStep() {
        LehrBelt x = belt();
        is(22, "whole(2)", x.whole(2), 43);
        is(22, "whole(4)", x.whole(4), 47);
        is(22, "whole(5)", x.whole(5), 46);
        is(22, "whole(6)", x.whole(6), 36);
        is(22, "whole(9)", x.whole(9), -2);
        is(22, "whole(-1)", x.whole(-1), -2);
        is(23, "sound()", x.sound(), 52);
        is(24, "good()", x.good(), 32);
        is(25, "tight(0): the first of several", x.tight(0), 0);
        is(25, "tight(3)", x.tight(3), 5);
        is(25, "tight(6)", x.tight(6), 1);
        is(25, "tight(9)", x.tight(9), -2);
        is(26, "hottest(0): the first, and come", x.hottest(0), 0);
        is(26, "hottest(3)", x.hottest(3), 2);
        is(26, "hottest(-1)", x.hottest(-1), -2);
        is(27, "glow(0)", x.glow(0), 1500);
        is(27, "glow(3)", x.glow(3), 2583);
        is(27, "glow(9)", x.glow(9), -2);
        LehrBelt late = Checks.told("lehr steps 2 law 0 odds 0 pace 1 set 0; piece heat 9 thick 1 bears 0 at 2;");
        is(25, "tight(1): none has come", late.tight(1), -1);
        is(26, "hottest(1): none has come", late.hottest(1), -1);
        is(46, "kernel(1): none has come", late.kernel(1), -1);
        is(27, "glow(1): none has come", late.glow(1), 0);
        is(43, "spread(1): none has come", late.spread(1), 0);
        is(24, "good(): out at once", late.good(), 1);
        is(22, "whole(1)", late.whole(1), 0);
        is(22, "whole(2)", late.whole(2), 1);
    }

    private static void worstAndSore() {
        LehrBelt x = belt();
        is(28, "worst()", x.worst(), 6);
        is(29, "sore()", x.sore(), 2);
        x.rate(3, 300);
        is(28, "worst(): the first of several", x.worst(), 5);
        LehrBelt out = Checks.told("lehr steps 1 law 0 odds 0 pace 1 set 0; zone 0;"
                + "piece heat 200 thick 2 bears 0 at 0;");
        is(28, "worst()", out.worst(), 1);
        is(29, "sore(): it is out when it cracks", out.sore(), -1);
        LehrBelt none = Checks.told(BARE);
        is(28, "worst(): none", none.worst(), -1);
        is(29, "sore(): none", none.sore(), -1);
        is(28, "worst() without a lehr", new LehrBelt().worst(), -2);
        is(29, "sore() without a lehr", new LehrBelt().sore(), -2);
    }

    private static void stepsOfPieces() {
        LehrBelt x = belt();
        is(30, "tense(0)", x.tense(0), 8);
        is(30, "tense(5)", x.tense(5), 4);
        is(30, "tense(2)", x.tense(2), 0);
        is(30, "tense(6)", x.tense(6), -2);
        is(31, "warms(5)", x.warms(5), 2);
        is(31, "warms(0)", x.warms(0), 0);
        is(31, "warms(-1)", x.warms(-1), -2);
        is(32, "cool(0, 500)", x.cool(0, 500), 3);
        is(32, "cool(0, 485)", x.cool(0, 485), 3);
        is(32, "cool(0, 484)", x.cool(0, 484), 4);
        is(32, "cool(5, 300)", x.cool(5, 300), 0);
        is(32, "cool(2, 600): it has come", x.cool(2, 600), 3);
        is(32, "cool(0, 321)", x.cool(0, 321), -1);
        is(32, "cool(4, 600)", x.cool(4, 600), -1);
        is(32, "cool(0, 0)", x.cool(0, 0), -1);
        is(32, "cool(0, 601)", x.cool(0, 601), -2);
        is(32, "cool(0, -1)", x.cool(0, -1), -2);
        is(32, "cool(6, 5)", x.cool(6, 5), -2);
        is(33, "still(0)", x.still(0), 5);
        is(33, "still(5)", x.still(5), 6);
        is(33, "still(4)", x.still(4), 0);
        is(33, "still(2)", x.still(2), 8);
        is(33, "still(6)", x.still(6), -2);
    }

    private static void zones() {
        LehrBelt x = belt();
        is(34, "pairs(0)", x.pairs(0), 3);
        is(34, "pairs(1)", x.pairs(1), 6);
        is(34, "pairs(8): those out are in no zone", x.pairs(8), 0);
        is(34, "pairs(9)", x.pairs(9), -2);
        is(35, "crowd()", x.crowd(), 4);
        is(35, "crowd() without zones", Checks.told(BARE).crowd(), 0);
        is(36, "oven(0)", x.oven(0), 0);
        is(36, "oven(9)", x.oven(9), -2);
        is(36, "oven(0) without zones", Checks.told(BARE).oven(0), -1);
        is(37, "fall(0, 0)", x.fall(0, 0), 160);
        is(37, "fall(1, 8)", x.fall(1, 8), 200);
        is(37, "fall(2, 0)", x.fall(2, 0), -10000);
        is(37, "fall(-1, 0)", x.fall(-1, 0), -10000);
        is(37, "fall(0, 9)", x.fall(0, 9), -10000);
        is(37, "fall(MAX, 0)", x.fall(MAX, 0), -10000);
        is(38, "cliff(0)", x.cliff(0), 1);
        is(38, "cliff(-1)", x.cliff(-1), -2);
        x.fires(1, 180, 4);
        is(36, "oven(3)", x.oven(3), 0);
        is(36, "oven(4)", x.oven(4), 1);
        is(37, "fall(0, 4)", x.fall(0, 4), -20);
        is(38, "cliff(4)", x.cliff(4), 1);
        LehrBelt rising = Checks.told("lehr steps 1 law 0 odds 0 pace 1 set 0; zone 9; zone 9; zone 50; zone 91;");
        is(36, "oven(0)", rising.oven(0), 3);
        is(38, "cliff(0)", rising.cliff(0), 0);
        LehrBelt steep = Checks.told("lehr steps 1 law 0 odds 0 pace 1 set 0; zone 9; zone 50; zone 91; zone 91;");
        is(36, "oven(0): the first of several", steep.oven(0), 2);
        is(38, "cliff(0)", steep.cliff(0), 2);
        LehrBelt two = Checks.told("lehr steps 1 law 0 odds 0 pace 1 set 0; zone 9; zone 50; zone 91;");
        is(38, "cliff(0): it rises alike, the first of several", two.cliff(0), 0);
        is(38, "cliff(0) of one zone", Checks.told(BARE + "zone 5;").cliff(0), -1);
    }

    private static void fallsOfSkin() {
        LehrBelt x = belt();
        is(39, "least(0)", x.least(0), 322);
        is(39, "least(5)", x.least(5), 256);
        is(39, "least(4): it does not come", x.least(4), -1);
        is(39, "least(6)", x.least(6), -2);
        LehrBelt warm = Checks.told("lehr steps 3 law 0 odds 0 pace 1 set 0; zone 600;"
                + "piece heat 100 thick 1 bears 0 at 1;");
        is(39, "least(0)", warm.least(0), 100);
        is(40, "chill(0): it never falls", warm.chill(0), -1);
        is(40, "chill(0)", x.chill(0), 4);
        is(40, "chill(2)", x.chill(2), 7);
        is(40, "chill(4)", x.chill(4), -1);
        is(40, "chill(-1)", x.chill(-1), -2);
        is(41, "drop(0, 4)", x.drop(0, 4), 121);
        is(41, "drop(5, 0)", x.drop(5, 0), -130);
        is(41, "drop(0, 7)", x.drop(0, 7), 0);
        is(41, "drop(0, 8): the last", x.drop(0, 8), -100000);
        is(41, "drop(0, -1)", x.drop(0, -1), -100000);
        is(41, "drop(6, 0)", x.drop(6, 0), -100000);
        is(42, "gaps(0)", x.gaps(0), 6);
        is(42, "gaps(5)", x.gaps(5), 1);
        is(42, "gaps(2)", x.gaps(2), 0);
        is(42, "gaps(6)", x.gaps(6), -2);
        x.rate(0, 91);
        is(42, "gaps(0): more than 45, half of 91", x.gaps(0), 5);
        LehrBelt alike = Checks.told("lehr steps 2 law 1 odds 0 pace 2 set 0; zone 0;"
                + "piece heat 500 thick 1 bears 0 at 0;");
        is(40, "chill(0): the first of several", alike.chill(0), 0);
    }

    private static void morePieces() {
        LehrBelt x = belt();
        is(43, "spread(0)", x.spread(0), 300);
        is(43, "spread(8)", x.spread(8), 66);
        LehrBelt first = Checks.told("lehr steps 1 law 0 odds 0 pace 1 set 0; zone 0;"
                + "piece heat 7 thick 1 bears 0 at 0; piece heat 90 thick 1 bears 0 at 0;");
        is(43, "spread(0): the first is the coolest", first.spread(0), 83);
        is(35, "crowd(): in step 0 alone", first.crowd(), 2);
        is(43, "spread(9)", x.spread(9), -2);
        is(44, "coming(0)", x.coming(0), 41);
        is(44, "coming(1)", x.coming(1), 2);
        is(44, "coming(2)", x.coming(2), 0);
        is(44, "coming(9)", x.coming(9), -2);
        is(45, "cracked(0)", x.cracked(0), 0);
        is(45, "cracked(5)", x.cracked(5), 1);
        is(45, "cracked(6)", x.cracked(6), 10);
        is(45, "cracked(-1)", x.cracked(-1), -2);
        is(46, "kernel(2): the first of several", x.kernel(2), 0);
        is(46, "kernel(3)", x.kernel(3), 2);
        is(46, "kernel(9)", x.kernel(9), -2);
        is(47, "tally(0)", x.tally(0), 3);
        is(47, "tally(1)", x.tally(1), 2);
        is(47, "tally(2)", x.tally(2), 1);
        is(47, "tally(3)", x.tally(3), -2);
        is(47, "tally(-1)", x.tally(-1), -2);
    }

    private static void useOfZones() {
        LehrBelt x = belt();
        is(48, "last(0)", x.last(0), 4);
        is(48, "last(2)", x.last(2), 8);
        is(48, "last(3)", x.last(3), -2);
        is(49, "busy(0)", x.busy(0), 5);
        is(49, "busy(2)", x.busy(2), 5);
        is(49, "busy(-1)", x.busy(-1), -2);
        is(50, "idle()", x.idle(), 0);
        is(51, "stiff(0)", x.stiff(0), 32);
        is(51, "stiff(4)", x.stiff(4), 41);
        is(51, "stiff(8): not the one that has not come", x.stiff(8), 47);
        is(51, "stiff(9)", x.stiff(9), -2);
        LehrBelt gap = Checks.told("lehr steps 8 law 0 odds 0 pace 1 set 50; zone 0; zone 0; zone 0; zone 0; zone 0;"
                + "zone 0; zone 0; piece heat 50 thick 1 bears 0 at 5; piece heat 99 thick 1 bears 0 at 1;");
        is(48, "last(6)", gap.last(6), 7);
        is(49, "busy(0)", gap.busy(0), 2);
        is(49, "busy(3)", gap.busy(3), 2);
        is(51, "stiff(5): at set it is not below", gap.stiff(5), 2);
        LehrBelt early = Checks.told("lehr steps 2 law 0 odds 0 pace 1 set 0; zone 0; zone 0;"
                + "piece heat 50 thick 1 bears 0 at 0;");
        is(48, "last(0)", early.last(0), 0);
        is(12, "leaves(0): the last step", early.leaves(0), 2);
        LehrBelt few = Checks.told("lehr steps 2 law 0 odds 0 pace 1 set 0; zone 0; zone 0; zone 0; zone 0;"
                + "piece heat 50 thick 1 bears 0 at 1;");
        is(48, "last(2)", few.last(2), -1);
        is(49, "busy(2)", few.busy(2), 0);
        is(50, "idle()", few.idle(), 12);
    }

    private static void strength() {
        LehrBelt x = belt();
        is(52, "spare(0): it cracks", x.spare(0), -1);
        is(52, "spare(5)", x.spare(5), 139);
        is(52, "spare(2)", x.spare(2), 10);
        is(52, "spare(4)", x.spare(4), 0);
        is(52, "spare(6)", x.spare(6), -2);
        is(53, "needs(5)", x.needs(5), 161);
        is(53, "needs(3): twice what is frozen", x.needs(3), 90);
        is(53, "needs(0): what it bears does not matter", x.needs(0), 90);
        is(53, "needs(1): 306 are too many", x.needs(1), -1);
        is(53, "needs(4)", x.needs(4), 0);
        is(53, "needs(-1)", x.needs(-1), -2);
        LehrBelt hot = Checks.told("lehr steps 1 law 0 odds 0 pace 2 set 0; zone 600;"
                + "piece heat 0 thick 2 bears 0 at 0;");
        hot.fires(0, 200, 0);
        hot.fires(0, 200, 0);
        hot.fires(0, 200, 0);
        is(53, "needs(0): 300", hot.needs(0), 300);
        hot.fires(0, 2, 0);
        is(53, "needs(0): 301 are too many", hot.needs(0), -1);
        x.rate(3, 90);
        is(52, "spare(3)", x.spare(3), 0);
        x.rate(3, 95);
        is(52, "spare(3)", x.spare(3), 5);
        is(54, "thin(0)", x.thin(0), 1);
        is(54, "thin(5)", x.thin(5), 9);
        is(54, "thin(6)", x.thin(6), -2);
        // strain 100 - 100 / thick in step 1: 66 by 3, 75 by 4
        LehrBelt thick = Checks.told("lehr steps 1 law 0 odds 0 pace 2 set 0; zone 0;"
                + "piece heat 200 thick 9 bears 70 at 0;");
        is(54, "thin(0)", thick.thin(0), 3);
    }

    private static void paces() {
        // strain as it comes into zone 1 is 33, 29, 25, 23, 21, 19 by pace 1 to 6
        String text = "lehr steps 14 law 0 odds 0 pace 1 set 0; zone 140; zone 70; piece heat 200 thick 2 bears ";
        LehrBelt x = Checks.told(text + "23 at 0;");
        is(15, "strain(0, 2)", x.strain(0, 2), 33);
        is(55, "pace()", x.pace(), 4);
        is(56, "paced()", x.paced(), 1);
        is(55, "pace()", Checks.told(text + "20 at 0;").pace(), 6);
        is(55, "pace()", Checks.told(text + "18 at 0;").pace(), 1);
        is(56, "paced()", Checks.told(text + "18 at 0;").paced(), 0);
        is(55, "count(3) stays", x.count(3), 1);
        LehrBelt none = Checks.told(BARE);
        is(55, "pace() without pieces", none.pace(), 1);
        is(56, "paced() without pieces", none.paced(), 0);
        is(55, "pace() without a lehr", new LehrBelt().pace(), -2);
        is(56, "paced() without a lehr", new LehrBelt().paced(), -2);
        // it stays in the warm zone to the last step only with 6 steps to a zone
        LehrBelt slow = Checks.told("lehr steps 6 law 0 odds 0 pace 1 set 0; zone 600; zone 0;"
                + "piece heat 600 thick 2 bears 20 at 0;");
        is(55, "pace()", slow.pace(), 6);
        is(56, "paced()", slow.paced(), 1);
        is(55, "pace() told as 4", Checks.told("lehr steps 1 law 0 odds 0 pace 4 set 0;").pace(), 1);
    }

    private static void raises() {
        // the skin falls by (100 - n) / 2, the core by half of it: 20 are borne from n 59 on
        LehrBelt x = Checks.told("lehr steps 2 law 0 odds 0 pace 1 set 0; zone 100; zone 200; zone 300;"
                + "piece heat 200 thick 2 bears 10 at 0; piece heat 500 thick 2 bears 0 at 3;");
        is(57, "raise(0, 0)", x.raise(0, 0), 59);
        is(57, "raise(1, 0)", x.raise(1, 0), -1);
        is(57, "raise(0, 1): it does not crack now", x.raise(0, 1), 0);
        is(57, "raise(3, 0)", x.raise(3, 0), -2);
        is(57, "raise(0, 2)", x.raise(0, 2), -2);
        is(57, "raise(-1, 0)", x.raise(-1, 0), -2);
        is(58, "rescue(0)", x.rescue(0), 0);
        is(58, "rescue(1): the first of several", x.rescue(1), 0);
        is(58, "rescue(2)", x.rescue(2), -2);
        x.fires(0, 30, 0);
        is(57, "raise(0, 0) besides acts", x.raise(0, 0), 29);
        LehrBelt cold = Checks.told("lehr steps 1 law 0 odds 0 pace 1 set 0; zone 0;"
                + "piece heat 241 thick 2 bears 10 at 0; piece heat 242 thick 2 bears 10 at 0;");
        is(57, "raise(0, 0): 200 at most", cold.raise(0, 0), 200);
        is(58, "rescue(0): 200 at most", cold.rescue(0), 0);
        is(57, "raise(0, 1): 201 are needed", cold.raise(0, 1), -1);
        is(58, "rescue(1): none does", cold.rescue(1), -1);
        // zone 0 hotter would strain it yet more in zone 1
        LehrBelt second = Checks.told("lehr steps 2 law 0 odds 0 pace 1 set 0; zone 200; zone 100;"
                + "piece heat 200 thick 2 bears 10 at 0;");
        is(58, "rescue(0)", second.rescue(0), 1);
        // warmed ahead by 44, it is strained by 11, 11, 12; by 43 it is by 11, 11, 13
        LehrBelt ahead = Checks.told("lehr steps 4 law 0 odds 0 pace 2 set 0; zone 100; zone 160;"
                + "piece heat 100 thick 2 bears 12 at 0;");
        is(57, "raise(0, 0)", ahead.raise(0, 0), 44);
        is(57, "raise(1, 0)", ahead.raise(1, 0), -1);
    }

    private static void swapsAndSkips() {
        // behind 200 it does not bear 100, but 160; behind 160 not 100
        LehrBelt x = Checks.told("lehr steps 2 law 0 odds 0 pace 1 set 0; zone 200; zone 100; zone 160;"
                + "piece heat 200 thick 2 bears 10 at 0;");
        is(59, "swap(): zone 2 ahead of zone 1", x.swap(), 12);
        is(60, "skip()", x.skip(), 1);
        LehrBelt whole = Checks.told("lehr steps 3 law 0 odds 0 pace 1 set 0; zone 200; zone 190;"
                + "piece heat 200 thick 2 bears 10 at 0;");
        is(59, "swap(): not more than now", whole.swap(), -1);
        is(60, "skip(): not more than now", whole.skip(), -1);
        is(59, "swap() without a lehr", new LehrBelt().swap(), -2);
        is(60, "skip() without a lehr", new LehrBelt().skip(), -2);
        is(59, "swap() without zones", Checks.told(BARE).swap(), -1);
        is(60, "skip() without zones", Checks.told(BARE).skip(), -1);
        // either zone left out saves the piece by its own heat alone; the first is told
        LehrBelt acts = Checks.told("lehr steps 2 law 0 odds 0 pace 1 set 0; zone 100; zone 0;"
                + "piece heat 200 thick 2 bears 10 at 0;");
        is(60, "skip() without fires", acts.skip(), -1);
        acts.fires(1, 200, 0);
        is(60, "skip(): its own fires go along with zone 1", acts.skip(), 0);
        is(59, "swap(): fires stay where they are", acts.swap(), -1);
        LehrBelt both = Checks.told("lehr steps 2 law 0 odds 0 pace 1 set 0; zone 0; zone 200;"
                + "piece heat 200 thick 2 bears 10 at 1;");
        both.fires(1, 200, 0);
        is(59, "swap(): 200 in place of 0 is borne", both.swap(), 1);
        both.anew();
        is(59, "swap(): zones 0 and 1", both.swap(), 1);
        is(60, "skip(): zone 0", both.skip(), 0);
    }

    private static void seenAir() {
        LehrBelt x = Checks.told("lehr steps 3 law 0 odds 0 pace 1 set 0; zone 100; zone 50;"
                + "piece heat 200 thick 2 bears 300 at 0;");
        // 200 falls by 50 in air of 99, 100 or (cut) 100 - 1
        Checks.write(x, 0, 0, 1, 150);
        is(61, "airs(0, 0)", x.airs(0, 0), 2);
        is(62, "low(0, 0)", x.low(0, 0), 99);
        is(63, "high(0, 0)", x.high(0, 0), 100);
        is(61, "airs(0, 1): it is so whatever zone 1 is", x.airs(0, 1), 601);
        is(62, "low(0, 1)", x.low(0, 1), 0);
        is(63, "high(0, 1)", x.high(0, 1), 600);
        Checks.write(x, 1, 0, 1, 150, 0, 2, 100000);
        is(61, "airs(1, 1): none", x.airs(1, 1), 0);
        is(62, "low(1, 1): none", x.low(1, 1), -1);
        is(63, "high(1, 1): none", x.high(1, 1), -1);
        // 0 is the only heat that takes it to 100, and 600 the only one that takes it to 400
        LehrBelt ends = Checks.told("lehr steps 3 law 0 odds 0 pace 1 set 0; zone 300;"
                + "piece heat 200 thick 2 bears 300 at 0;");
        Checks.write(ends, 0, 0, 1, 100);
        is(61, "airs(0, 0) at 0", ends.airs(0, 0), 1);
        is(62, "low(0, 0) at 0", ends.low(0, 0), 0);
        is(63, "high(0, 0) at 0", ends.high(0, 0), 0);
        Checks.write(ends, 0, 0, 1, 400);
        is(61, "airs(0, 0) at 600", ends.airs(0, 0), 1);
        is(62, "low(0, 0) at 600", ends.low(0, 0), 600);
        is(63, "high(0, 0) at 600", ends.high(0, 0), 600);
        x.fires(0, 40, 0);
        is(63, "high(0, 0) with acts", x.high(0, 0), 60);
        is(61, "airs(4, 0)", x.airs(4, 0), -2);
        is(61, "airs(-1, 0)", x.airs(-1, 0), -2);
        is(61, "airs(2, 0): it has nothing", x.airs(2, 0), -6);
        is(61, "airs(2, 2): no such zone goes ahead", x.airs(2, 2), -2);
        is(62, "low(2, 0)", x.low(2, 0), -6);
        is(62, "low(0, 2)", x.low(0, 2), -2);
        is(63, "high(2, 0)", x.high(2, 0), -6);
        is(63, "high(0, -1)", x.high(0, -1), -2);
        x.row(3, 0, 0);
        is(61, "airs(3, 0) of no numbers", x.airs(3, 0), 601);
        x.row(3, 0, 4);
        is(61, "airs(3, 0): not three each", x.airs(3, 0), -2);
        x.row(3, 0, 3);
        is(61, "airs(3, 0): skin 0 in step 0", x.airs(3, 0), 0);
        long[][] none = {{1, 0, 0}, {-1, 0, 0}, {0, 4, 0}, {0, -1, 0}, {0, 0, -1}, {0, 0, 100001}};
        for (long[] three : none) {
            Checks.write(x, 3, three);
            is(61, "airs(3, 0): a number is none such", x.airs(3, 0), -2);
            is(62, "low(3, 0): a number is none such", x.low(3, 0), -2);
            is(63, "high(3, 0): a number is none such", x.high(3, 0), -2);
            is(64, "thicks(3, 0): a number is none such", x.thicks(3, 0), -2);
            is(65, "laws(3): a number is none such", x.laws(3), -2);
        }
    }

    private static void seenThickAndLaw() {
        // thick 4 or more strains it by 75 in step 1, more than 70: it stays at 100
        LehrBelt x = Checks.told("lehr steps 2 law 0 odds 0 pace 2 set 0; zone 0;"
                + "piece heat 200 thick 9 bears 70 at 0; piece heat 0 thick 9 bears 70 at 0;");
        Checks.write(x, 0, 0, 2, 100);
        is(64, "thicks(0, 0)", x.thicks(0, 0), 0b1111110000);
        is(64, "thicks(0, 1): its thick does not matter", x.thicks(0, 1), 0b1111111110);
        Checks.write(x, 1, 0, 2, 50);
        is(64, "thicks(1, 0)", x.thicks(1, 0), 0b1110);
        is(64, "thicks(1, 1)", x.thicks(1, 1), 0);
        is(64, "thicks(2, 0)", x.thicks(2, 0), -6);
        is(64, "thicks(2, 2)", x.thicks(2, 2), -2);
        is(64, "thicks(4, 0)", x.thicks(4, 0), -2);
        // in step 1: 100 by law 0, 140 by 1, mean 0 (cut) and 100 by 2, 134 by 3
        Checks.write(x, 0, 0, 1, 100);
        is(65, "laws(0)", x.laws(0), 0b0101);
        Checks.write(x, 0, 0, 1, 140);
        is(65, "laws(0)", x.laws(0), 0b0010);
        Checks.write(x, 0, 0, 1, 134);
        is(65, "laws(0)", x.laws(0), 0b1000);
        Checks.write(x, 0, 0, 1, 133);
        is(65, "laws(0)", x.laws(0), 0);
        Checks.write(x, 0, 0, 0, 200);
        is(65, "laws(0)", x.laws(0), 0b1111);
        is(65, "laws(2)", x.laws(2), -6);
        is(65, "laws(4)", x.laws(4), -2);
        is(65, "laws(0) without a lehr", new LehrBelt().laws(0), -2);
        x.row(0, 1, 5);
        is(65, "laws(0): not three each", x.laws(0), -2);
    }

    private static void lawsInPlace() {
        // strain 50 by law 0 and 2, 30 by 1, 33 by 3
        String text = "lehr steps 1 law 0 odds 0 pace 2 set 0; zone 0; piece heat 200 thick 2 bears ";
        LehrBelt x = Checks.told(text + "33 at 0;");
        is(66, "by(0)", x.by(0), 0);
        is(66, "by(1)", x.by(1), 1);
        is(66, "by(2)", x.by(2), 0);
        is(66, "by(3)", x.by(3), 1);
        is(66, "by(4)", x.by(4), -2);
        is(66, "by(-1)", x.by(-1), -2);
        is(67, "law(): the least of several", x.law(), 1);
        is(67, "count(1) stays", x.count(1), 0);
        is(67, "law()", Checks.told(text + "300 at 0;").law(), 0);
        is(67, "law() without a lehr", new LehrBelt().law(), -2);
        is(66, "by(0) without a lehr", new LehrBelt().by(0), -2);
        // 250 beside 0: the mean of 100 and 0 is 50, it falls by 100; alone it falls by 75
        LehrBelt two = Checks.told("lehr steps 1 law 2 odds 0 pace 2 set 0; zone 100;"
                + "piece heat 250 thick 2 bears 40 at 0; piece heat 0 thick 1 bears 0 at 0;");
        is(66, "by(0)", two.by(0), 3);
        is(66, "by(2)", two.by(2), 2);
        is(67, "law()", two.law(), 0);
    }

    private static void shares() {
        // the piece is saved only if zones 0 and 1 burn, both; zone 2 it does not feel
        LehrBelt x = Checks.told("lehr steps 2 law 0 odds 0 pace 1 set 0; zone 100; zone 100; zone 100;"
                + "piece heat 100 thick 2 bears 10 at 0;");
        int[] worth = {0, 0, 0, 1, 0, 0, 0, 1};
        for (int set = 0; set < 8; set++) {
            is(68, "worth(" + set + ")", x.worth(set), worth[set]);
        }
        is(68, "worth(8)", x.worth(8), -2);
        is(68, "worth(-1)", x.worth(-1), -2);
        is(68, "worth(0) without a lehr", new LehrBelt().worth(0), -2);
        is(68, "worth(0) without zones", Checks.told(BARE).worth(0), 0);
        is(68, "worth(1) without zones", Checks.told(BARE).worth(1), -2);
        is(69, "share(0, 0)", x.share(0, 0), 1);
        is(69, "share(0, 1)", x.share(0, 1), 2);
        is(69, "share(1, 0)", x.share(1, 0), 1);
        is(69, "share(2, 0)", x.share(2, 0), 0);
        is(69, "share(2, 1)", x.share(2, 1), 1);
        is(69, "share(3, 0)", x.share(3, 0), -1000000);
        is(69, "share(-1, 0)", x.share(-1, 0), -1000000);
        is(69, "share(0, 2)", x.share(0, 2), -1000000);
        is(69, "share(0, -1)", x.share(0, -1), -1000000);
        x.fires(1, 100, 0);
        is(68, "worth(1) with acts", x.worth(1), 1);
        is(68, "worth(2) with acts", x.worth(2), 0);
        LehrBelt three = Checks.told("lehr steps 3 law 0 odds 0 pace 1 set 0; zone 100; zone 100; zone 100;"
                + "piece heat 100 thick 2 bears 10 at 0;");
        is(69, "share(1, 0) of three alike", three.share(1, 0), 1);
        is(69, "share(1, 1) of three alike", three.share(1, 1), 3);
        // a cold piece cracks where it burns
        LehrBelt cold = Checks.told("lehr steps 2 law 0 odds 0 pace 1 set 0; zone 100; zone 100;"
                + "piece heat 0 thick 2 bears 10 at 0;");
        is(68, "worth(0)", cold.worth(0), 1);
        is(68, "worth(1)", cold.worth(1), 0);
        is(69, "share(0, 0): below 0", cold.share(0, 0), -1);
        is(69, "share(0, 1)", cold.share(0, 1), 2);
    }

    private static void games() {
        // piece 0 is saved if zone 0 is fired, piece 1 (behind it) if zone 1 is not
        LehrBelt x = Checks.told("lehr steps 2 law 0 odds 0 pace 1 set 0; zone 100; zone 150;"
                + "piece heat 150 thick 2 bears 12 at 0;");
        is(71, "gets(0, 1, 0, 0, 0)", x.gets(0, 1, 0, 0, 0), 0);
        is(71, "gets(0, 1, 1, 0, 0)", x.gets(0, 1, 1, 0, 0), 1);
        is(71, "gets(0, 1, 0, 1, 1): below 0", x.gets(0, 1, 0, 1, 1), -2);
        is(71, "gets(0, 1, 1, 1, 0)", x.gets(0, 1, 1, 1, 0), -2);
        is(71, "gets(1, 0, 0, 1, 0): the first is zone 1", x.gets(1, 0, 0, 1, 0), 3);
        is(71, "gets(1, 0, 0, 1, 1)", x.gets(1, 0, 0, 1, 1), -2);
        is(70, "rests(0, 1): the first one is fired", x.rests(0, 1), 2);
        is(70, "rests(1, 0): neither", x.rests(1, 0), 1);
        is(70, "rests(0, 0)", x.rests(0, 0), -2);
        is(70, "rests(0, 2)", x.rests(0, 2), -2);
        is(70, "rests(-1, 0)", x.rests(-1, 0), -2);
        is(71, "gets(0, 0, 0, 0, 0)", x.gets(0, 0, 0, 0, 0), -1000);
        is(71, "gets(2, 0, 0, 0, 0)", x.gets(2, 0, 0, 0, 0), -1000);
        is(71, "gets(0, -1, 0, 0, 0)", x.gets(0, -1, 0, 0, 0), -1000);
        is(71, "gets(0, 1, 2, 0, 0)", x.gets(0, 1, 2, 0, 0), -1000);
        is(71, "gets(0, 1, 0, -1, 0)", x.gets(0, 1, 0, -1, 0), -1000);
        is(71, "gets(0, 1, 0, 0, 2)", x.gets(0, 1, 0, 0, 2), -1000);
        is(71, "gets(0, 1, 0, 0, -1)", x.gets(0, 1, 0, 0, -1), -1000);
        // an odd piece that zone 1 saves by its fire: the other one is fired
        LehrBelt odd = Checks.told("lehr steps 2 law 0 odds 0 pace 1 set 0; zone 150; zone 100;"
                + "piece heat 0 thick 1 bears 0 at 3; piece heat 150 thick 2 bears 12 at 0;");
        is(71, "gets(0, 1, 0, 1, 1)", odd.gets(0, 1, 0, 1, 1), 1);
        is(71, "gets(0, 1, 0, 1, 0)", odd.gets(0, 1, 0, 1, 0), 3);
        is(70, "rests(0, 1)", odd.rests(0, 1), 4);
        is(70, "rests(1, 0)", odd.rests(1, 0), 1);
        // fired, zone 0 is at 150: 49 or 51 more would be too far for one of the two
        LehrBelt just = Checks.told("lehr steps 1 law 0 odds 0 pace 1 set 0; zone 100; zone 0;"
                + "piece heat 171 thick 2 bears 5 at 0; piece heat 0 thick 1 bears 0 at 1;"
                + "piece heat 129 thick 2 bears 5 at 0;");
        is(71, "gets(0, 1, 0, 0, 0)", just.gets(0, 1, 0, 0, 0), 0);
        is(71, "gets(0, 1, 1, 0, 0)", just.gets(0, 1, 1, 0, 0), 4);
        is(71, "gets(0, 1, 1, 0, 1)", just.gets(0, 1, 1, 0, 1), 3);
        // each piece needs both zones fired: neither is, or both are
        LehrBelt both = Checks.told("lehr steps 2 law 0 odds 0 pace 1 set 0; zone 100; zone 100;"
                + "piece heat 150 thick 2 bears 12 at 0; piece heat 150 thick 2 bears 12 at 0;");
        is(70, "rests(0, 1)", both.rests(0, 1), 9);
    }

    private static void chances() {
        // a gust in step 0 or 1 brings 20 of strain; behind those the piece is out
        LehrBelt x = Checks.told("lehr steps 9 law 0 odds 3 pace 2 set 0; zone 200;"
                + "piece heat 200 thick 2 bears 10 at 0; piece heat 200 thick 1 bears 10 at 0;");
        is(72, "chance(0, 1, 0)", x.chance(0, 1, 0), 7);
        is(72, "chance(0, 1, 1)", x.chance(0, 1, 1), 10);
        is(72, "chance(0, 2, 0)", x.chance(0, 2, 0), 49);
        is(72, "chance(0, 2, 1)", x.chance(0, 2, 1), 100);
        is(72, "chance(0, 8, 1)", x.chance(0, 8, 1), 100);
        is(72, "chance(1, 8, 0)", x.chance(1, 8, 0), 1);
        is(72, "chance(1, 8, 1)", x.chance(1, 8, 1), 1);
        is(72, "chance(0, 0, 0)", x.chance(0, 0, 0), -2);
        is(72, "chance(0, 9, 0)", x.chance(0, 9, 0), -2);
        is(72, "chance(0, 1, 2)", x.chance(0, 1, 2), -2);
        is(72, "chance(0, 1, -1)", x.chance(0, 1, -1), -2);
        is(72, "chance(2, 1, 0)", x.chance(2, 1, 0), -2);
        x.gusts(1);
        is(72, "chance(0, 1, 0): one for sure in step 1", x.chance(0, 1, 0), 7);
        is(72, "chance(0, 2, 0): one for sure in step 1", x.chance(0, 2, 0), 0);
        is(72, "chance(0, 2, 1)", x.chance(0, 2, 1), 1);
        LehrBelt few = Checks.told("lehr steps 1 law 0 odds 10 pace 2 set 0; zone 200;"
                + "piece heat 200 thick 2 bears 10 at 0;");
        is(72, "chance(0, 1, 0) with odds 10", few.chance(0, 1, 0), 0);
        is(72, "chance(0, 2, 0): there is no such step", few.chance(0, 2, 0), -2);
        LehrBelt even = Checks.told("lehr steps 1 law 0 odds 4 pace 2 set 0; zone 200;"
                + "piece heat 200 thick 2 bears 10 at 0;");
        is(72, "chance(0, 1, 0) with odds 4", even.chance(0, 1, 0), 3);
        is(72, "chance(0, 1, 1) with odds 4", even.chance(0, 1, 1), 5);
    }

    private static void means() {
        LehrBelt x = Checks.told("lehr steps 9 law 0 odds 3 pace 2 set 0; zone 200;"
                + "piece heat 200 thick 2 bears 10 at 0; piece heat 200 thick 1 bears 10 at 0;"
                + "piece heat 200 thick 2 bears 10 at 1;");
        is(73, "mean(1, 0): 7/10 + 1 + 1", x.mean(1, 0), 27);
        is(73, "mean(1, 1)", x.mean(1, 1), 10);
        is(73, "mean(2, 0): 49/100 + 1 + 7/10", x.mean(2, 0), 219);
        is(73, "mean(2, 1)", x.mean(2, 1), 100);
        is(73, "mean(0, 0)", x.mean(0, 0), -2);
        is(73, "mean(9, 0)", x.mean(9, 0), -2);
        is(73, "mean(1, 2)", x.mean(1, 2), -2);
        is(73, "mean(1, 0) without pieces", Checks.told(BARE).mean(1, 0), 0);
        is(73, "mean(1, 1) without pieces", Checks.told(BARE).mean(1, 1), 1);
        is(73, "mean(4, 0) of 3 steps", Checks.told(BARE).mean(4, 0), -2);
        is(73, "mean(1, 0) without a lehr", new LehrBelt().mean(1, 0), -2);
        // eight steps in the zone, 3 in ten for a gust: below is ten to the eighth
        LehrBelt long8 = Checks.told("lehr steps 8 law 0 odds 3 pace 4 set 0; zone 200; zone 200;"
                + "piece heat 200 thick 2 bears 10 at 0;");
        is(73, "mean(8, 0): 7 to the eighth", long8.mean(8, 0), 5764801);
        is(73, "mean(8, 1)", long8.mean(8, 1), 100000000);
    }

    private static void acts() {
        LehrBelt x = Checks.told("lehr steps 4 law 0 odds 0 pace 2 set 0; zone 100; zone 50;"
                + "piece heat 200 thick 2 bears 10 at 0; piece heat 50 thick 2 bears 10 at 4;");
        is(23, "sound()", x.sound(), 2);
        is(74, "fires(0, 100, 0): then zone 1 breaks it", x.fires(0, 100, 0), 1);
        is(8, "air(0, 0)", x.air(0, 0), 200);
        is(74, "fires(1, 150, 2)", x.fires(1, 150, 2), 2);
        is(8, "air(1, 1)", x.air(1, 1), 50);
        is(8, "air(1, 2)", x.air(1, 2), 200);
        is(8, "air(1, 4)", x.air(1, 4), 200);
        is(75, "gusts(1)", x.gusts(1), 1);
        is(8, "air(0, 1)", x.air(0, 1), 120);
        is(8, "air(0, 0)", x.air(0, 0), 200);
        is(8, "air(1, 1): 0 at least", x.air(1, 1), 0);
        is(75, "gusts(1): once", x.gusts(1), 1);
        is(8, "air(0, 1)", x.air(0, 1), 120);
        is(74, "count(7)", x.count(7), 4);
        is(74, "fires(2, 1, 0)", x.fires(2, 1, 0), -2);
        is(74, "fires(-1, 1, 0)", x.fires(-1, 1, 0), -2);
        is(74, "fires(0, 0, 0)", x.fires(0, 0, 0), -2);
        is(74, "fires(0, 201, 0)", x.fires(0, 201, 0), -2);
        is(74, "fires(0, 1, 5)", x.fires(0, 1, 5), -2);
        is(74, "fires(0, 1, -1)", x.fires(0, 1, -1), -2);
        is(75, "gusts(4): the last", x.gusts(4), -2);
        is(75, "gusts(-1)", x.gusts(-1), -2);
        is(74, "count(7)", x.count(7), 4);
        is(74, "fires(0, 200, 4): the last step", x.fires(0, 200, 4), 1);
        for (int i = 5; i < 30; i++) {
            is(74, "fires the " + i + "th", x.fires(0, 200, 3), 1);
        }
        is(8, "air(0, 3): without bound", x.air(0, 3), 5200);
        is(74, "fires the 31st", x.fires(0, 1, 0), -5);
        is(75, "gusts the 31st", x.gusts(0), -5);
        is(74, "fires(2, 1, 0): that goes ahead", x.fires(2, 1, 0), -2);
        is(75, "gusts(4): that goes ahead", x.gusts(4), -2);
        is(74, "count(7)", x.count(7), 30);
        is(76, "undo()", x.undo(), 29);
        is(8, "air(0, 3)", x.air(0, 3), 5000);
        is(75, "gusts(0)", x.gusts(0), 1);
    }

    private static void actsTakenBack() {
        LehrBelt x = belt();
        is(76, "undo(): there is none", x.undo(), -5);
        is(77, "anew(): there were none", x.anew(), 0);
        is(76, "undo() without a lehr", new LehrBelt().undo(), -2);
        is(77, "anew() without a lehr", new LehrBelt().anew(), -2);
        x.gusts(2);
        x.gusts(2);
        x.fires(1, 7, 1);
        is(8, "air(1, 2)", x.air(1, 2), 327);
        is(76, "undo()", x.undo(), 2);
        is(8, "air(1, 2)", x.air(1, 2), 320);
        is(76, "undo(): the other gust stays", x.undo(), 1);
        is(8, "air(1, 2)", x.air(1, 2), 320);
        is(76, "undo()", x.undo(), 0);
        is(8, "air(1, 2)", x.air(1, 2), 400);
        is(23, "sound()", x.sound(), 52);
        x.fires(0, 1, 0);
        x.gusts(0);
        is(8, "air(0, 0)", x.air(0, 0), 481);
        is(77, "anew()", x.anew(), 2);
        is(8, "air(0, 0)", x.air(0, 0), 560);
        is(77, "count(7)", x.count(7), 0);
        is(13, "skin(0, 1)", x.skin(0, 1), 580);
    }

    private static void draughts() {
        // from seed 1 the draws are 8, 8, 3, 5, 1; from 0 the first is 0
        LehrBelt x = Checks.told("lehr steps 5 law 0 odds 4 pace 4 set 0; zone 200;"
                + "piece heat 200 thick 2 bears 10 at 2; piece heat 200 thick 2 bears 10 at 0;");
        is(78, "drawn(1, 0)", x.drawn(1, 0), 0b10100);
        is(78, "drawn(1, 1): both feel the gust in step 2", x.drawn(1, 1), 0);
        x.rate(1, 300);
        is(78, "drawn(1, 1)", x.drawn(1, 1), 2);
        is(78, "drawn(0, 0) & 1", x.drawn(0, 0) & 1, 1);
        is(78, "drawn(-1, 0)", x.drawn(-1, 0), -2);
        is(78, "drawn(2000000001, 0)", x.drawn(2_000_000_001, 0), -2);
        Checks.holds("promise 78: drawn(2000000000, 0)", x.drawn(2_000_000_000, 0) >= 0);
        is(78, "drawn(1, 2)", x.drawn(1, 2), -2);
        is(78, "drawn(1, -1)", x.drawn(1, -1), -2);
        is(78, "drawn(1, 0) without a lehr", new LehrBelt().drawn(1, 0), -2);
        x.gusts(0);
        is(78, "drawn(1, 0): acts are not drawn", x.drawn(1, 0), 0b10100);
        x.anew();
        int sound = 0;
        for (int seed = 7; seed < 27; seed++) {
            sound += x.drawn(seed, 1) & 1;
            is(79, "luck(7, " + (seed - 6) + ", 0)", x.luck(7, seed - 6, 0), sound);
        }
        is(79, "luck(1, 1, 0)", x.luck(1, 1, 0), 0);
        is(79, "luck(1, 1, 1)", x.luck(1, 1, 1), 1);
        is(79, "luck(0, 2, 1)", x.luck(0, 2, 1), 2);
        is(79, "luck(1, 0, 0)", x.luck(1, 0, 0), -2);
        is(79, "luck(1, 21, 0)", x.luck(1, 21, 0), -2);
        is(79, "luck(-1, 1, 0)", x.luck(-1, 1, 0), -2);
        is(79, "luck(2000000001, 1, 0)", x.luck(2_000_000_001, 1, 0), -2);
        is(79, "luck(2000000000, 20, 1)", x.luck(2_000_000_000, 20, 1), 20);
        is(79, "luck(1, 1, 2)", x.luck(1, 1, 2), -2);
        is(79, "luck(1, 1, 0) without a lehr", new LehrBelt().luck(1, 1, 0), -2);
        is(78, "drawn with odds 0", Checks.told(BELT.replace("odds 3", "odds 0")).drawn(1, 0), 0);
        is(78, "drawn with odds 10", Checks.told(BELT.replace("odds 3", "odds 10")).drawn(1, 0), 255);
    }

    private static void rates() {
        LehrBelt x = belt();
        is(80, "rate(0, 90)", x.rate(0, 90), 60);
        is(80, "piece(0, 2)", x.piece(0, 2), 90);
        is(80, "cracks(0)", x.cracks(0), -1);
        is(80, "rate(0, 0)", x.rate(0, 0), 90);
        is(80, "rate(0, 300)", x.rate(0, 300), 0);
        is(80, "rate(0, 301)", x.rate(0, 301), -2);
        is(80, "rate(0, -1)", x.rate(0, -1), -2);
        is(80, "rate(6, 1)", x.rate(6, 1), -2);
        x.gusts(0);
        is(80, "rate(0, 1): there are acts", x.rate(0, 1), -5);
        is(80, "rate(6, 1): that goes ahead", x.rate(6, 1), -2);
        is(80, "piece(0, 2)", x.piece(0, 2), 300);
        x.undo();
        is(80, "rate(0, 1)", x.rate(0, 1), 300);
    }

    private static void counts() {
        LehrBelt x = belt();
        x.feed(0, 0, 0, 0, 0);
        x.gusts(1);
        x.row(2, 0, 5);
        int[] count = {8, 0, 3, 2, 500, 3, 6, 1, 10, 20, 1};
        for (int what = 0; what <= 10; what++) {
            is(81, "count(" + what + ")", x.count(what), count[what]);
        }
        is(81, "count(11)", x.count(11), -1);
        is(81, "count(-1)", x.count(-1), -1);
        is(81, "count(1)", Checks.told(BARE).count(1), 2);
    }

    private static void images() {
        LehrBelt x = new LehrBelt();
        is(83, "back(0): it has nothing", x.back(0), -6);
        is(82, "image(0) without a lehr", x.image(0), 0);
        Checks.tell(x, BELT);
        x.fires(0, 10, 0);
        is(82, "image(1)", x.image(1), 0);
        is(82, "image(3)", x.image(3), -2);
        is(82, "image(-1)", x.image(-1), -2);
        is(83, "back(3)", x.back(3), -2);
        is(83, "back(-1)", x.back(-1), -2);
        is(83, "back(2): it has nothing", x.back(2), -6);
        x.gusts(0);
        x.row(0, 0, 1);
        Checks.tell(x, "zone");
        is(83, "back(1)", x.back(1), 0);
        is(83, "count(7)", x.count(7), 1);
        is(83, "air(0, 0)", x.air(0, 0), 570);
        is(83, "skin(0, 1)", x.skin(0, 1), 585);
        is(83, "fault(0) stays", x.fault(0), 1);
        is(83, "count(10) stays", x.count(10), 1);
        is(83, "undo()", x.undo(), 0);
        x.rate(0, 299);
        x.rate(1, 298);
        x.anew();
        x.gusts(5);
        x.gusts(6);
        x.fires(2, 90, 4);
        is(83, "back(1): the image stays as it was", x.back(1), 0);
        is(83, "piece(0, 2)", x.piece(0, 2), 60);
        is(83, "count(7)", x.count(7), 1);
        is(83, "undo() of the image's act", x.undo(), 0);
        is(83, "air(0, 0)", x.air(0, 0), 560);
        is(83, "air(0, 5)", x.air(0, 5), 560);
        is(83, "air(2, 4)", x.air(2, 4), 200);
        is(83, "back(0): no lehr", x.back(0), 0);
        is(83, "sound()", x.sound(), -2);
        is(83, "count(6)", x.count(6), 0);
        is(82, "image(1) of no lehr", x.image(1), 0);
        is(83, "back(1)", x.back(1), 0);
        is(83, "count(8)", x.count(8), 0);
    }

    private static void rows() {
        LehrBelt x = Checks.told("lehr steps 1 law 0 odds 0 pace 1 set 0; piece heat 100 thick 1 bears 0 at 0;");
        is(84, "row(4, 0, 1)", x.row(4, 0, 1), -2);
        is(84, "row(-1, 0, 1)", x.row(-1, 0, 1), -2);
        is(84, "row(0, 4, 1)", x.row(0, 4, 1), -2);
        is(84, "row(0, -1, 1)", x.row(0, -1, 1), -2);
        is(84, "row(0, 0, 61)", x.row(0, 0, 61), -2);
        is(84, "row(0, 4, -1): -2 goes ahead", x.row(0, 4, -1), -2);
        is(84, "row(0, 0, -1)", x.row(0, 0, -1), -3);
        is(84, "row(0, 0, MIN)", x.row(0, 0, MIN), -3);
        is(84, "count(10)", x.count(10), 0);
        is(84, "row(0, 0, 60)", x.row(0, 0, 60), 0);
        is(84, "count(10)", x.count(10), 1);
        is(85, "write(0, 59, 1)", x.write(0, 59, 1), 0);
        is(85, "write(0, 60, 1)", x.write(0, 60, 1), -7);
        is(85, "write(0, -1, 1)", x.write(0, -1, 1), -7);
        is(85, "write(4, 0, 1)", x.write(4, 0, 1), -2);
        is(85, "write(1, 0, 1)", x.write(1, 0, 1), -6);
        is(84, "row(0, 0, -1): the slot stays", x.row(0, 0, -1), -3);
        is(84, "write(0, 59, 1)", x.write(0, 59, 1), 0);
        is(84, "row(0, 0, 3) in place of it", x.row(0, 0, 3), 0);
        is(84, "write(0, 3, 1)", x.write(0, 3, 1), -7);
        // the skin 100 is felt, as what is written is cut: 2^8, 2^16, 2^32 more are as much
        long[] more = {1L << 8, 1L << 16, 1L << 32};
        for (int width = 0; width < 3; width++) {
            x.row(1, width, 3);
            is(84, "laws(1): all 0", x.laws(1), 0);
            x.write(1, 2, 100 + more[width]);
            is(85, "laws(1): width " + width, x.laws(1), 15);
            x.write(1, 2, 100 + more[width] / 2);
            is(85, "laws(1): the highest bit is the sign of width " + width, x.laws(1), -2);
        }
        x.row(1, 3, 3);
        x.write(1, 2, 100);
        is(85, "laws(1)", x.laws(1), 15);
        x.write(1, 2, 100 + (1L << 32));
        is(85, "laws(1): nothing is cut", x.laws(1), -2);
        x.write(1, 2, Long.MIN_VALUE);
        is(85, "laws(1)", x.laws(1), -2);
        x.row(1, 3, 3);
        is(84, "laws(1): all 0 again", x.laws(1), 0);
    }

    private static void pastes() {
        LehrBelt x = Checks.told("lehr steps 1 law 0 odds 0 pace 1 set 0; piece heat 100 thick 1 bears 0 at 0;");
        x.row(0, 2, 6);
        x.row(1, 2, 3);
        x.row(2, 1, 3);
        x.write(0, 4, 100);
        is(86, "paste(4, 0, 0, 0, 0)", x.paste(4, 0, 0, 0, 0), -2);
        is(86, "paste(0, 0, -1, 0, 0)", x.paste(0, 0, -1, 0, 0), -2);
        is(86, "paste(3, 0, 4, 0, 0): -2 goes ahead", x.paste(3, 0, 4, 0, 0), -2);
        is(86, "paste(3, 0, 0, 0, 0)", x.paste(3, 0, 0, 0, 0), -6);
        is(86, "paste(0, 0, 3, 0, -1)", x.paste(0, 0, 3, 0, -1), -6);
        is(86, "paste(0, 0, 2, 0, 0)", x.paste(0, 0, 2, 0, 0), -8);
        is(86, "paste(0, -1, 2, 0, 0): -8 goes ahead", x.paste(0, -1, 2, 0, 0), -8);
        is(86, "paste(0, 4, 1, 0, 3)", x.paste(0, 4, 1, 0, 3), -7);
        is(86, "laws(1): nothing happened", x.laws(1), 0);
        is(86, "paste(0, 0, 1, 1, 3)", x.paste(0, 0, 1, 1, 3), -7);
        is(86, "paste(0, 7, 1, 0, 0)", x.paste(0, 7, 1, 0, 0), -7);
        is(86, "paste(0, 6, 1, 3, 0)", x.paste(0, 6, 1, 3, 0), 0);
        is(86, "paste(0, 0, 1, 4, 0)", x.paste(0, 0, 1, 4, 0), -7);
        is(86, "paste(0, -1, 1, 0, 1)", x.paste(0, -1, 1, 0, 1), -7);
        is(86, "paste(0, 0, 1, -1, 1)", x.paste(0, 0, 1, -1, 1), -7);
        is(86, "paste(0, 0, 1, 0, -1)", x.paste(0, 0, 1, 0, -1), -7);
        is(86, "paste(0, MAX, 1, 0, 1)", x.paste(0, MAX, 1, 0, 1), -7);
        is(86, "paste(0, 1, 1, 1, MAX)", x.paste(0, 1, 1, 1, MAX), -7);
        is(86, "paste(0, 2, 1, 0, 3)", x.paste(0, 2, 1, 0, 3), 0);
        is(86, "laws(1): 0, 0, 100", x.laws(1), 15);
        is(86, "write(0, 1, 7)", x.write(0, 1, 7), 0);
        // its own row: 0 7 0 0 100 0 becomes 0 7 0 7 0 0 as they were, then 0 7 0 7 0 7
        is(86, "paste(0, 0, 0, 2, 4)", x.paste(0, 0, 0, 2, 4), 0);
        is(86, "paste(0, 0, 1, 0, 3)", x.paste(0, 3, 1, 0, 3), 0);
        is(86, "laws(1): 7, 0, 0 is no piece", x.laws(1), -2);
        is(86, "write(1, 0, 0)", x.write(1, 0, 0), 0);
        is(86, "laws(1): 0, 0, 0", x.laws(1), 0);
    }

    private static void withoutZonesOrPieces() {
        LehrBelt x = Checks.told("lehr steps 2 law 0 odds 5 pace 4 set 300;"
                + "piece heat 300 thick 2 bears 0 at 1; piece heat 100 thick 9 bears 0 at 14;");
        is(9, "where(0, 0)", x.where(0, 0), -1);
        is(9, "where(0, 1): out at once", x.where(0, 1), 10);
        is(12, "leaves(0)", x.leaves(0), 1);
        is(11, "out(1)", x.out(1), 1);
        is(13, "skin(0, 2)", x.skin(0, 2), 300);
        is(23, "sound()", x.sound(), 3);
        is(24, "good()", x.good(), 1);
        is(50, "idle()", x.idle(), 0);
        is(58, "rescue(0)", x.rescue(0), -1);
        is(69, "share(0, 0)", x.share(0, 0), -1000000);
        is(75, "gusts(1)", x.gusts(1), 2);
        is(72, "chance(0, 2, 0)", x.chance(0, 2, 0), 1);
        LehrBelt none = Checks.told(BARE + "zone 5;");
        is(23, "sound() without pieces", none.sound(), 0);
        is(24, "good() without pieces", none.good(), 0);
        is(50, "idle() without pieces", none.idle(), 1);
        is(47, "tally(0) without pieces", none.tally(0), 0);
        is(34, "pairs(0) without pieces", none.pairs(0), 0);
        is(74, "fires(0, 1, 3) without pieces", none.fires(0, 1, 3), 0);
        is(68, "worth(1) without pieces", none.worth(1), 0);
        is(7, "piece(MAX, 0)", none.piece(MAX, 0), -2);
        is(6, "zone(MIN)", none.zone(MIN), -2);
    }
}
