/** The document's boundary cases of the tape, of texts and their faults, and of what is told: promises 1 to 7. */
public final class TextBoundaryTests {
    private static final int BAD = 0x23232323;
    private static final int BLANK = 0x20202020;

    private static final String[] TOKENS = ("lehr steps 5 law 2 odds 3 pace 4 set 9 ; zone 8 ; "
            + "piece heat 6 thick 7 bears 1 at 0 ; zone 3 ;").split(" ");
    private static final String[] WORDS = {"lehr", "steps", "law", "odds", "pace", "set", "zone", "piece", "heat",
        "thick", "bears", "at", "x", "zon", "zonee", "7", ";", "#"};

    private TextBoundaryTests() { }

    public static void main(String[] args) {
        newObject();
        newObjectBehindSlots();
        objectsApart();
        bytesInTheirOrder();
        fullTape();
        tapeCut();
        tapeRefused();
        lehrTaken();
        lehrInPlace();
        lehrFaulty();
        faultsOfTheLatest();
        blanksAndTokens();
        everyByteAlone();
        everyByteBehindANumber();
        textsCutShort();
        tokensOutOfPlace();
        wordsLikeOthers();
        numbersWithinBounds();
        numbersBeyondBounds();
        longNumbers();
        tooManyZones();
        tooManyPieces();
        firstFault();
        toldZones();
        toldPieces();
        Checks.close("TextBoundaryTests");
    }

    private static void is(int promise, String what, long got, long want) {
        Bounds.is(promise, what, got, want);
    }

    // ---- promise 1

    /** "No LEHR": nothing told, nothing done, nothing kept. */
    private static void newObject() {
        LehrBelt x = new LehrBelt();
        for (int what = 0; what <= 10; what++) {
            is(1, "count(" + what + ")", x.count(what), 0);
        }
        for (int slot = 0; slot < 4; slot++) {
            is(1, "write: slot " + slot + " has nothing", x.write(slot, 0, 0), -6);
            is(1, "paste: slot " + slot + " has nothing", x.paste(slot, 0, slot, 0, 0), -6);
        }
        for (int k = 0; k < 3; k++) {
            is(1, "back: image " + k + " has nothing", x.back(k), -6);
        }
        is(1, "the tape is empty", x.end(1), LehrBelt.NONE);
        is(1, "the tape is empty", x.end(0), 0);
        is(1, "no lehr was read: fault(0)", x.fault(0), 0);
        is(1, "no lehr was read: fault(1)", x.fault(1), -1);
        is(1, "lehr() of the empty tape", x.lehr(), 0);
        is(1, "NONE", LehrBelt.NONE, -1);
    }

    /** A row alone makes no lehr: what is asked of one is refused ahead of what the slot has. */
    private static void newObjectBehindSlots() {
        LehrBelt x = new LehrBelt();
        is(1, "row(0, 0, 0)", x.row(0, 0, 0), 0);
        is(1, "laws(0): no lehr", x.laws(0), -2);
        is(1, "airs(0, 0): no zone", x.airs(0, 0), -2);
        is(1, "thicks(0, 0): no piece", x.thicks(0, 0), -2);
        is(1, "laws(1): -2 ahead of -6", x.laws(1), -2);
        is(1, "airs(1, 0): -2 ahead of -6", x.airs(1, 0), -2);
        is(1, "low(1, 0): -2 ahead of -6", x.low(1, 0), -2);
        is(1, "high(1, 0): -2 ahead of -6", x.high(1, 0), -2);
        is(1, "thicks(1, 0): -2 ahead of -6", x.thicks(1, 0), -2);
        is(1, "undo(): -2 ahead of -5", x.undo(), -2);
    }

    private static void objectsApart() {
        LehrBelt told = Bounds.belt(Bounds.FULL);
        told.row(1, 0, 3);
        told.image(2);
        told.gusts(0);
        told.feed(BAD, BAD, BAD, BAD, BAD);
        LehrBelt x = new LehrBelt();
        is(1, "sound() beside another object", x.sound(), -2);
        is(1, "count(10) beside another object", x.count(10), 0);
        is(1, "count(9) beside another object", x.count(9), 0);
        is(1, "back(2) beside another object", x.back(2), -6);
        is(1, "lehr() beside another object", x.lehr(), 0);
        is(1, "the other object's count(8)", told.count(8), 14);
    }

    // ---- promises 2 and 3

    /** "four of each number, the highest first": a byte that is no token tells where it came to be. */
    private static void bytesInTheirOrder() {
        for (int place = 0; place < 20; place++) {
            for (int sign : new int[] {'#', 0, 127, 128, 255}) {
                int[] n = {BLANK, BLANK, BLANK, BLANK, BLANK};
                int shift = 24 - 8 * (place % 4);
                n[place / 4] = BLANK & ~(255 << shift) | sign << shift;
                LehrBelt x = new LehrBelt();
                is(2, "feed", x.feed(n[0], n[1], n[2], n[3], n[4]), 20);
                is(2, "lehr() of byte " + sign + " at " + place, x.lehr(), -4);
                is(2, "fault(1) of byte " + sign + " at " + place, x.fault(1), place);
                blank(x);
                x.feed(n[0], n[1], n[2], n[3], n[4]);
                is(2, "lehr() of byte " + sign + " behind the tape", x.lehr(), -4);
                is(2, "fault(1) of byte " + sign + " behind the tape", x.fault(1), 20 + place);
            }
        }
        LehrBelt x = new LehrBelt();
        x.feed(-1, -1, -1, -1, -1);
        is(2, "lehr() of numbers below 0", x.lehr(), -4);
        is(2, "fault(1) of numbers below 0", x.fault(1), 0);
    }

    private static int blank(LehrBelt x) {
        return x.feed(BLANK, BLANK, BLANK, BLANK, BLANK);
    }

    /** "NONE, and none come, if it would have more than 600". */
    private static void fullTape() {
        LehrBelt x = new LehrBelt();
        for (int i = 1; i <= 30; i++) {
            is(2, "feed the " + i + "th: how many it has", blank(x), 20 * i);
        }
        is(2, "feed beyond 600", x.feed(BAD, BAD, BAD, BAD, BAD), -1);
        is(2, "none came: count(9)", x.count(9), 600);
        is(3, "end(600)", x.end(600), 600);
        is(2, "none came: lehr()", x.lehr(), 0);
        is(2, "feed, as the tape is empty again", blank(x), 20);
        for (int i = 2; i <= 30; i++) {
            blank(x);
        }
        for (int n = 599; n > 580; n--) {
            is(3, "end(" + n + ")", x.end(n), n);
            is(2, "feed to more than 600 from " + n, x.feed(BAD, BAD, BAD, BAD, BAD), -1);
            is(2, "none came: count(9)", x.count(9), n);
        }
        is(3, "end(580)", x.end(580), 580);
        is(2, "feed to just 600", x.feed(BLANK, BLANK, BLANK, BLANK, BLANK + 3), 600);
        is(2, "lehr() of 600 bytes", x.lehr(), -4);
        is(2, "fault(1): its last byte", x.fault(1), 599);
    }

    /** "The TAPE has its first n bytes alone". */
    private static void tapeCut() {
        String good = Bounds.SMALL;
        LehrBelt x = new LehrBelt();
        Checks.feed(x, good + "#");
        is(3, "end(n): how many are asked", x.end(good.length()), good.length());
        is(3, "count(9)", x.count(9), good.length());
        is(3, "lehr() of the first n alone", x.lehr(), 4);
        Checks.feed(x, good);
        x.end(good.length() - 1);
        is(3, "lehr() without the last ;", x.lehr(), -4);
        blank(x);
        x.feed(BAD, BAD, BAD, BAD, BAD);
        is(3, "end(20)", x.end(20), 20);
        is(2, "feed behind what was cut", blank(x), 40);
        is(3, "lehr(): what was cut off has not come back", x.lehr(), 0);
        x.feed(BAD, BAD, BAD, BAD, BAD);
        is(3, "end(0)", x.end(0), 0);
        is(3, "lehr() of nothing", x.lehr(), 0);
        x.feed(BLANK, BLANK, BLANK, BLANK, BLANK + 3);
        is(3, "end(19)", x.end(19), 19);
        x.feed(BAD, BAD, BAD, BAD, BAD);
        x.lehr();
        is(3, "fault(1): what is fed comes right behind", x.fault(1), 19);
    }

    /** "NONE, and nothing happens, if it has not so many, or n is below 0". */
    private static void tapeRefused() {
        LehrBelt x = new LehrBelt();
        for (int n : new int[] {1, -1, 600, Bounds.MIN, Bounds.MAX}) {
            is(3, "end(" + n + ") of an empty tape", x.end(n), -1);
        }
        is(3, "end(0) of an empty tape", x.end(0), 0);
        blank(x);
        for (int n : new int[] {21, -1, 600, Bounds.MIN, Bounds.MAX}) {
            is(3, "end(" + n + ") of 20", x.end(n), -1);
            is(3, "count(9) behind end(" + n + ")", x.count(9), 20);
        }
        is(3, "end(20) of 20", x.end(20), 20);
        is(3, "end(20) of 20 again", x.end(20), 20);
    }

    // ---- promise 4

    /** "The TAPE (empty then) is the LEHR (in place of another), nothing done: how many LINES". */
    private static void lehrTaken() {
        LehrBelt x = new LehrBelt();
        is(4, "lehr() of the most lines", Checks.tell(x, Bounds.FULL), 14);
        is(4, "count(8)", x.count(8), 14);
        is(4, "count(9): the tape is empty", x.count(9), 0);
        is(4, "end(1): the tape is empty", x.end(1), -1);
        x.rate(5, 7);
        x.fires(6, 50, 2);
        x.gusts(3);
        x.row(0, 1, 3);
        x.image(1);
        is(4, "lehr() in place of another", Checks.tell(x, Bounds.FULL), 14);
        is(4, "piece(5, 2): as told", x.piece(5, 2), 300);
        is(4, "count(7): nothing done", x.count(7), 0);
        is(4, "undo(): nothing done", x.undo(), -5);
        is(4, "air(6, 2): nothing done", x.air(6, 2), 0);
        is(4, "air(0, 3): nothing done", x.air(0, 3), 600);
        is(4, "count(10): slots stay", x.count(10), 1);
        is(4, "back(1): images stay", x.back(1), 0);
        is(4, "count(7) of the image", x.count(7), 2);
        is(4, "lehr() of less", Checks.tell(x, Bounds.BARE), 1);
        is(4, "zone(0) of less", x.zone(0), -2);
        is(4, "piece(0, 0) of less", x.piece(0, 0), -2);
        is(4, "out(3) of less", x.out(3), -2);
        is(4, "lehr() of an empty tape: there is none then", x.lehr(), 0);
        is(4, "sound(): there is none", x.sound(), -2);
        for (int what = 0; what <= 8; what++) {
            is(4, "count(" + what + "): there is none", x.count(what), 0);
        }
        is(4, "lehr() of blanks", Checks.tell(x, "\n \n"), 0);
        is(4, "lehr() of one line", Checks.tell(x, Bounds.BARE), 1);
    }

    private static final Bounds.CallOfOne[] OF_PIECE = {LehrBelt::leaves, LehrBelt::peak, LehrBelt::when,
        LehrBelt::frozen, LehrBelt::sets, LehrBelt::cracks, LehrBelt::why, LehrBelt::tense, LehrBelt::warms,
        LehrBelt::still, LehrBelt::least, LehrBelt::chill, LehrBelt::gaps, LehrBelt::spare, LehrBelt::needs,
        LehrBelt::thin, LehrBelt::rescue, (x, p) -> x.skin(p, 1), (x, p) -> x.core(p, 2)};
    private static final Bounds.CallOfOne[] OF_STEP = {LehrBelt::out, LehrBelt::whole, LehrBelt::tight,
        LehrBelt::hottest, LehrBelt::glow, LehrBelt::pairs, LehrBelt::oven, LehrBelt::cliff, LehrBelt::spread,
        LehrBelt::coming, LehrBelt::cracked, LehrBelt::kernel, LehrBelt::stiff};
    private static final Bounds.Call[] OF_ALL = {LehrBelt::sound, LehrBelt::good, LehrBelt::worst, LehrBelt::sore,
        LehrBelt::crowd, LehrBelt::idle, LehrBelt::pace, LehrBelt::paced, LehrBelt::swap, LehrBelt::skip,
        LehrBelt::law, x -> x.tally(0), x -> x.tally(1), x -> x.tally(2)};

    /** "(in place of another)": nothing is left of a longer one that was asked of all. */
    private static void lehrInPlace() {
        String longer = Bounds.head(14, 3, 9, 4, 600) + Bounds.zones(600, 600, 600, 600)
                + Bounds.piece(0, 9, 0, 0).repeat(6);
        String shorter = Bounds.head(2, 0, 0, 1, 150) + Bounds.zones(0, 100) + Bounds.piece(200, 2, 60, 0)
                + Bounds.piece(0, 1, 0, 1) + Bounds.piece(200, 2, 300, 14);
        LehrBelt used = Bounds.belt(longer);
        LehrBelt fresh = Bounds.belt(shorter);
        for (int ask = 0; ask < 2; ask++) {
            for (int i = 0; i < OF_PIECE.length; i++) {
                for (int p = 0; p < 3; p++) {
                    alike("call " + i + " of piece " + p, ask, OF_PIECE[i].of(used, p), OF_PIECE[i].of(fresh, p));
                }
            }
            for (int i = 0; i < OF_STEP.length; i++) {
                for (int s = 0; s < 3; s++) {
                    alike("call " + i + " of step " + s, ask, OF_STEP[i].of(used, s), OF_STEP[i].of(fresh, s));
                }
            }
            for (int i = 0; i < OF_ALL.length; i++) {
                alike("call " + i + " of all", ask, OF_ALL[i].of(used), OF_ALL[i].of(fresh));
            }
            Checks.tell(used, shorter);
        }
        Checks.tell(used, longer);
        is(4, "lehr() of none in place of another", used.lehr(), 0);
        for (int what = 0; what <= 8; what++) {
            is(4, "count(" + what + ") of none in place of another", used.count(what), 0);
        }
    }

    /** The first round only asks the longer one, so that it has been gone through. */
    private static void alike(String what, int ask, long got, long want) {
        if (ask > 0) {
            is(4, "in place of a longer one: " + what, got, want);
        }
    }

    /** "-4: a FAULT (the TAPE is empty, all else stays)". */
    private static void lehrFaulty() {
        LehrBelt x = new LehrBelt();
        is(4, "lehr() with a fault, ahead of any", Checks.tell(x, "zone"), -4);
        is(4, "sound(): there is none yet", x.sound(), -2);
        Checks.tell(x, Bounds.FULL);
        x.rate(5, 7);
        x.fires(6, 50, 2);
        x.gusts(3);
        x.row(0, 1, 3);
        x.image(1);
        int skin = x.skin(0, 3);
        is(4, "lehr() with a fault behind 14 good lines", Checks.tell(x, Bounds.FULL + ";"), -4);
        is(4, "count(9): the tape is empty", x.count(9), 0);
        is(4, "count(8) stays", x.count(8), 14);
        is(4, "count(7) stays", x.count(7), 2);
        is(4, "piece(5, 2) stays", x.piece(5, 2), 7);
        is(4, "air(6, 2) stays", x.air(6, 2), 50);
        is(4, "air(6, 3) stays", x.air(6, 3), 0);
        is(4, "skin(0, 3) stays", x.skin(0, 3), skin);
        is(4, "count(10) stays", x.count(10), 1);
        Checks.tell(x, "lehr steps 1 law 3 odds 9 pace 1 set 1; zone 7; piece heat 601");
        int[] count = {14, 0, 5, 2, 300, 7, 6, 2, 14, 0, 1};
        for (int what = 0; what <= 10; what++) {
            is(4, "count(" + what + ") stays", x.count(what), count[what]);
        }
        is(4, "zone(0) stays", x.zone(0), 600);
        is(4, "piece(0, 0) stays", x.piece(0, 0), 600);
        is(4, "undo() stays", x.undo(), 1);
        is(4, "lehr() behind the fault: the tape was empty", x.lehr(), 0);
    }

    // ---- promise 5

    /** "Of the latest lehr()"; "NONE for another what, and ahead of any (what 1)". */
    private static void faultsOfTheLatest() {
        LehrBelt x = new LehrBelt();
        is(5, "fault(0) ahead of any", x.fault(0), 0);
        is(5, "fault(1) ahead of any", x.fault(1), -1);
        Checks.feed(x, "#");
        is(5, "fault(0): what was fed was not read", x.fault(0), 0);
        x.end(0);
        Checks.tell(x, Bounds.BARE + "zone 601;");
        is(5, "fault(0)", x.fault(0), 2);
        is(5, "fault(1)", x.fault(1), Bounds.BARE.length() + 5);
        for (int what : new int[] {-1, 2, 3, Bounds.MIN, Bounds.MAX}) {
            is(5, "fault(" + what + ") of a fault", x.fault(what), -1);
            is(5, "fault(" + what + ") ahead of any", new LehrBelt().fault(what), -1);
        }
        Checks.feed(x, "#");
        is(5, "fault(0) stays till the next lehr()", x.fault(0), 2);
        x.end(0);
        Checks.tell(x, " #");
        is(5, "fault(0) of the latest", x.fault(0), 1);
        is(5, "fault(1) of the latest", x.fault(1), 1);
        Checks.tell(x, Bounds.BARE);
        is(5, "fault(0), without", x.fault(0), 0);
        is(5, "fault(1), without", x.fault(1), -1);
        Checks.tell(x, ";");
        is(5, "fault(1): place 0 is one", x.fault(1), 0);
        x.lehr();
        is(5, "fault(0) of the empty tape", x.fault(0), 0);
        is(5, "fault(1) of the empty tape", x.fault(1), -1);
    }

    // ---- term I: tokens

    private static void reads(String text, int lines) {
        LehrBelt x = new LehrBelt();
        is(4, "lehr() of '" + text + "'", Checks.tell(x, text), lines);
        is(5, "fault(0) of '" + text + "'", x.fault(0), 0);
        is(5, "fault(1) of '" + text + "'", x.fault(1), -1);
    }

    private static void fault(String text, int fault, int place) {
        LehrBelt x = new LehrBelt();
        is(4, "lehr() of '" + text + "'", Checks.tell(x, text), -4);
        is(5, "fault(0) of '" + text + "'", x.fault(0), fault);
        is(5, "fault(1) of '" + text + "'", x.fault(1), place);
    }

    /** "TOKENS, blanks (32, 10) aside, the longest". */
    private static void blanksAndTokens() {
        reads(String.join(" ", TOKENS), 4);
        reads(String.join("\n", TOKENS), 4);
        reads("\n\n  " + String.join(" \n ", TOKENS) + " \n\n ", 4);
        reads("lehr steps5law2odds3pace4set9;zone8;piece heat6thick7bears1at0;zone3;", 4);
        fault("lehrsteps 5", 1, 0);
        fault("lehr stepslaw 5", 1, 5);
        fault("lehr steps 1 4 law", 1, 13);
        fault("lehr st eps 5", 1, 5);
        fault("LEHR steps 5", 1, 0);
        fault("lehr steps 5 law 2 odds 3 pace 4 set 9 ;;", 1, 40);
    }

    private static void everyByteAlone() {
        for (int sign = 0; sign < 256; sign++) {
            String text = String.valueOf((char) sign);
            if (sign == 32 || sign == 10) {
                reads(text, 0);
            } else {
                fault(text, 1, 0);
            }
        }
    }

    /** Only a blank or a digit can follow a number that a word must follow; a digit makes it another number. */
    private static void everyByteBehindANumber() {
        for (int sign = 0; sign < 256; sign++) {
            String text = "lehr steps 5" + (char) sign + " law 2 odds 3 pace 4 set 9;";
            if (sign == 32 || sign == 10) {
                reads(text, 1);
            } else if (sign >= '0' && sign <= '9') {
                fault(text, 2, 11);
            } else {
                fault(text, 1, 12);
            }
        }
    }

    /** "the end's" place: a text may end behind a ; alone. */
    private static void textsCutShort() {
        StringBuilder text = new StringBuilder();
        int lines = 0;
        reads("", 0);
        for (String token : TOKENS) {
            text.append(text.length() > 0 ? " " : "").append(token);
            if (token.equals(";")) {
                lines++;
                reads(text.toString(), lines);
                reads(text + " \n", lines);
            } else {
                fault(text.toString(), 1, text.length());
                fault(text + " \n", 1, text.length() + 2);
            }
        }
        fault(Bounds.BARE + " ".repeat(595 - Bounds.BARE.length()) + " zone", 1, 600);
        String small = Bounds.SMALL;
        reads(small + " ".repeat(600 - small.length()), 4);
        reads(" ".repeat(600 - small.length()) + small, 4);
        fault(small + " ".repeat(599 - small.length()) + ";", 1, 599);
    }

    /** "can't stand there (lehr behind the first LINE, another word ahead of it)". */
    private static void tokensOutOfPlace() {
        for (int k = 0; k < TOKENS.length; k++) {
            boolean begins = k > 0 && TOKENS[k - 1].equals(";");
            for (String word : WORDS) {
                boolean fits = word.equals(TOKENS[k]) || word.equals("7") && Character.isDigit(TOKENS[k].charAt(0))
                        || begins && (word.equals("zone") || word.equals("piece"));
                if (!fits) {
                    String[] tokens = TOKENS.clone();
                    tokens[k] = word;
                    int place = 0;
                    for (int i = 0; i < k; i++) {
                        place += tokens[i].length() + 1;
                    }
                    fault(String.join(" ", tokens), 1, place);
                }
            }
        }
        fault(Bounds.zones(5) + Bounds.BARE, 1, 0);
        fault(Bounds.piece(5, 5, 5, 5) + Bounds.BARE, 1, 0);
        fault(Bounds.BARE + Bounds.zones(5) + Bounds.BARE, 1, (Bounds.BARE + Bounds.zones(5)).length());
    }

    /** A word that is another in one letter, or is one letter longer or shorter, is another word. */
    private static void wordsLikeOthers() {
        int place = 0;
        for (int k = 0; k < TOKENS.length; k++) {
            String word = TOKENS[k];
            boolean isWord = Character.isLetter(word.charAt(0));
            for (int i = 0; isWord && i < word.length(); i++) {
                char other = word.charAt(i) == 'q' ? 'r' : 'q';
                otherToken(k, place, word.substring(0, i) + other + word.substring(i + 1));
                otherToken(k, place, word.substring(0, i) + word.substring(i + 1));
            }
            if (isWord) {
                otherToken(k, place, word + "q");
                otherToken(k, place, "q" + word);
            }
            place += word.length() + 1;
        }
    }

    private static void otherToken(int k, int place, String word) {
        if (!word.isEmpty()) {
            String[] tokens = TOKENS.clone();
            tokens[k] = word;
            fault(String.join(" ", tokens), 1, place);
        }
    }

    // ---- term I: bounds

    private static final String[] NAMES = {"lehr steps ", " law ", " odds ", " pace ", " set ", ";zone ",
        ";piece heat ", " thick ", " bears ", " at "};
    private static final int[] LEAST = {1, 0, 0, 1, 0, 0, 0, 1, 0, 0};
    private static final int[] MOST = {14, 3, 10, 4, 600, 600, 600, 9, 300, 14};

    /** A text in which number k of those named is told so; what stands ahead of it, too, if it is cut there. */
    private static String textOf(int k, String number, boolean cut) {
        StringBuilder text = new StringBuilder();
        for (int i = 0; i < NAMES.length; i++) {
            text.append(NAMES[i]);
            if (i == k && cut) {
                return text.toString();
            }
            text.append(i == k ? number : "2");
        }
        return text.append(";").toString();
    }

    private static int toldNumber(LehrBelt x, int k) {
        return k < 5 ? x.count(k) : k == 5 ? x.zone(0) : x.piece(0, k - 6);
    }

    private static void numbersWithinBounds() {
        for (int k = 0; k < NAMES.length; k++) {
            for (int n : new int[] {LEAST[k], LEAST[k] + 1, MOST[k] - 1, MOST[k]}) {
                for (String zeros : new String[] {"", "0", "000000000000000000000"}) {
                    LehrBelt x = new LehrBelt();
                    is(4, "lehr() of" + NAMES[k] + zeros + n, Checks.tell(x, textOf(k, zeros + n, false)), 3);
                    is(4, "what is told of" + NAMES[k] + zeros + n, toldNumber(x, k), n);
                }
            }
        }
    }

    /** "2 a number out of its bounds", at its first byte; also one that wraps around 32 or 64 bits to one within. */
    private static void numbersBeyondBounds() {
        String[] wrapping = {"4294967297", "4294967298", "18446744073709551617", "18446744073709551618",
            "2147483648", "9223372036854775808", "340282366920938463463374607431768211458"};
        for (int k = 0; k < NAMES.length; k++) {
            int place = textOf(k, "", true).length();
            fault(textOf(k, String.valueOf(MOST[k] + 1), false), 2, place);
            fault(textOf(k, "00" + (MOST[k] + 1), false), 2, place);
            fault(textOf(k, "1000", false), 2, place);
            if (LEAST[k] > 0) {
                fault(textOf(k, "0", false), 2, place);
                fault(textOf(k, "000", false), 2, place);
            }
            for (String number : wrapping) {
                fault(textOf(k, number, false), 2, place);
            }
            fault(textOf(k, "-1", false), 1, place);
            fault(textOf(k, "", true), 1, place);
            fault(textOf(k, ";", false), 1, place);
        }
    }

    /** Numbers as long as a tape can hold them. */
    private static void longNumbers() {
        reads("lehr steps " + "0".repeat(550) + "5 law 2 odds 3 pace 4 set 9;", 1);
        fault("lehr steps " + "0".repeat(550) + "15 law 2 odds 3 pace 4 set 9;", 2, 11);
        fault("lehr steps 1" + "0".repeat(588), 2, 11);
        fault("lehr steps " + "9".repeat(589), 2, 11);
        fault("lehr steps " + "0".repeat(588) + "5", 1, 600);
    }

    /** "3 an 8th zone .. at its word". */
    private static void tooManyZones() {
        String seven = Bounds.BARE + Bounds.zones(1, 2, 3, 4, 5, 6, 7);
        reads(seven, 8);
        reads(seven + Bounds.piece(1, 1, 1, 1), 9);
        int n = seven.length();
        fault(seven + "zone 8;", 3, n);
        fault(seven + " \n zone 8;", 3, n + 3);
        fault(seven + "zone", 3, n);
        fault(seven + "zone;", 3, n);
        fault(seven + "zone 601;", 3, n);
        fault(seven + "zone#", 3, n);
        fault(seven + "zonex 1;", 1, n);
        String piece = Bounds.piece(1, 1, 1, 1);
        fault(seven + piece + "zone 8;", 3, n + piece.length());
        LehrBelt x = Bounds.belt(seven);
        is(4, "count(5)", x.count(5), 7);
        is(4, "zone(6): numbered as they stand", x.zone(6), 7);
    }

    /** "3 .. 7th piece, at its word". */
    private static void tooManyPieces() {
        StringBuilder told = new StringBuilder(Bounds.BARE);
        for (int i = 0; i < 6; i++) {
            told.append(Bounds.piece(i, 1, 1, 1));
        }
        String six = told.toString();
        reads(six, 7);
        reads(six + "zone 1;", 8);
        int n = six.length();
        fault(six + Bounds.piece(7, 1, 1, 1), 3, n);
        fault(six + "piece", 3, n);
        fault(six + "piece;", 3, n);
        fault(six + "piece heat 601", 3, n);
        fault(six + "pieces", 1, n);
        fault(six + "zone 1; piece", 3, n + 8);
        String both = six + Bounds.zones(1, 2, 3, 4, 5, 6, 7);
        reads(both, 14);
        fault(both + "zone", 3, both.length());
        fault(both + "piece", 3, both.length());
        fault(both + "lehr", 1, both.length());
        LehrBelt x = Bounds.belt(both);
        is(4, "count(6)", x.count(6), 6);
        is(4, "piece(5, 0): numbered as they stand", x.piece(5, 0), 5);
    }

    /** "FAULTS, the first by its place". */
    private static void firstFault() {
        String seven = Bounds.BARE + Bounds.zones(1, 2, 3, 4, 5, 6);
        fault(seven + "zone 601; zone 8; #", 2, seven.length() + 5);
        fault(seven + "zone 7; zone 601; #", 3, seven.length() + 8);
        fault(seven + "zone 7 # zone 8; zone 601;", 1, seven.length() + 7);
        fault("lehr steps 15 law 4 #", 2, 11);
        fault("lehr # steps 15", 1, 5);
        fault("lehr steps 0 ## law", 2, 11);
        fault("##", 1, 0);
    }

    // ---- promises 6 and 7

    private static void toldZones() {
        Bounds.needsZone(6, "zone", LehrBelt::zone, -2);
        LehrBelt x = Bounds.belt(Bounds.BARE, Bounds.zones(0, 600));
        is(6, "zone(0)", x.zone(0), 0);
        is(6, "zone(1)", x.zone(1), 600);
        x.fires(0, 200, 0);
        x.gusts(0);
        is(6, "zone(0) as told, whatever was done", x.zone(0), 0);
        is(6, "zone(1) as told, whatever was done", x.zone(1), 600);
    }

    private static void toldPieces() {
        Bounds.needsPiece(7, "piece of what 0", (x, p) -> x.piece(p, 0), -2);
        Bounds.needsPiece(7, "piece of what 3", (x, p) -> x.piece(p, 3), -2);
        Bounds.needsNumber(7, "piece by what", (x, what) -> x.piece(5, what), -2, 0, 3);
        LehrBelt x = Bounds.belt(Bounds.BARE, Bounds.piece(0, 1, 0, 0), Bounds.piece(600, 9, 300, 14));
        int[] least = {0, 1, 0, 0};
        int[] most = {600, 9, 300, 14};
        for (int what = 0; what < 4; what++) {
            is(7, "piece(0, " + what + ")", x.piece(0, what), least[what]);
            is(7, "piece(1, " + what + ")", x.piece(1, what), most[what]);
        }
        is(7, "piece(2, 0)", x.piece(2, 0), -2);
    }
}
