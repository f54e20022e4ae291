import java.util.Arrays;

/** What cracks in the lehr: a cooling tunnel told as a text, as ../shared/DOC.md promises it. */
public final class LehrBelt {
    public static final int NONE = -1;

    private static final int NO_SUCH = -2;
    private static final int BELOW_NOTHING = -3;
    private static final int FAULTY = -4;
    private static final int ACTS_FORBID = -5;
    private static final int HAS_NOTHING = -6;
    private static final int BEYOND = -7;
    private static final int UNLIKE = -8;
    private static final int NO_SUCH_GAIN = -1_000;
    private static final int NO_SUCH_FALL = -10_000;
    private static final int NO_SUCH_DROP = -100_000;
    private static final int NO_SUCH_SHARE = -1_000_000;

    private static final int MAX_TAPE = 600;
    private static final int MAX_ZONES = 7;
    private static final int MAX_PIECES = 6;
    private static final int MAX_STEPS = 14;
    private static final int MAX_ACTS = 30;
    private static final int MAX_NUMBERS = 60;
    private static final int SLOTS = 4;
    private static final int WIDTHS = 4;
    private static final int IMAGES = 3;
    private static final int LAWS = 4;
    /** Steps 0 to the last one possible: how wide a table's line is. */
    private static final int WIDE = MAX_STEPS + 1;

    private static final int OUT = 10;
    private static final int EVERY_PIECE = (1 << MAX_PIECES) - 1;
    private static final int EVEN_PIECES = 0b010101;
    private static final int NO_DRAUGHT = 0;

    private static final int LAW_AT_MOST = 1;
    private static final int LAW_OF_MEAN = 2;
    private static final int LAW_OF_THIRD = 3;
    private static final int MOST_BY_LAW = 60;
    private static final int GUST = 80;
    private static final int FIRED = 50;

    private static final int MOST_HEAT = 600;
    private static final int MOST_THICK = 9;
    private static final int MOST_BORNE = 300;
    private static final int MOST_PACE = 6;
    private static final int MOST_RAISE = 200;
    private static final int MOST_SKIN = 100_000;
    private static final int MOST_SEED = 2_000_000_000;
    private static final int MOST_SEEDS = 20;
    private static final int MOST_CHANCE_STEP = 8;
    private static final int TENTHS = 10;
    /** More than any strain can be, as heat stays under 600 and 30 fires of 200. */
    private static final int UNBREAKABLE = 1_000_000;

    private static final int BY_STRAIN = 1;
    private static final int BY_FROZEN = 2;

    private static final int OF_SKIN = 0;
    private static final int OF_CORE = 1;
    private static final int OF_STRAIN = 2;

    private final Tape tape;
    private final Reader reader;
    private final Plan draft;
    private final Belt now;
    private final Course course;
    private final Trials trials;
    private final Odds odds;
    private final Belt[] images = new Belt[IMAGES];
    private final boolean[] imaged = new boolean[IMAGES];
    private final Row[] rows = new Row[SLOTS];
    /** Whether the course still tells of the belt as it is now. */
    private boolean followed;

    public LehrBelt() {
        tape = new Tape();
        reader = new Reader(tape);
        draft = new Plan();
        now = new Belt();
        course = new Course(now);
        trials = new Trials(now);
        odds = new Odds(now);
        for (int k = 0; k < IMAGES; k++) {
            images[k] = new Belt();
        }
        for (int slot = 0; slot < SLOTS; slot++) {
            rows[slot] = new Row();
        }
        followed = false;
    }

    // ---- the tape and the lehr

    public int feed(int a, int b, int c, int d, int e) {
        if (!tape.hasRoom(20)) {
            return NONE;
        }
        tape.append(a);
        tape.append(b);
        tape.append(c);
        tape.append(d);
        tape.append(e);
        return tape.length;
    }

    public int end(int n) {
        return tape.cutTo(n) ? n : NONE;
    }

    public int lehr() {
        draft.clear();
        reader.readInto(draft);
        tape.cutTo(0);
        if (reader.fault != 0) {
            return FAULTY;
        }
        now.plan.copyFrom(draft);
        now.acts.clear();
        followed = false;
        return now.plan.lines;
    }

    public int fault(int what) {
        switch (what) {
            case 0: return reader.fault;
            case 1: return reader.place;
            default: return NONE;
        }
    }

    public int zone(int zone) {
        return now.plan.hasZone(zone) ? now.plan.told[zone] : NO_SUCH;
    }

    public int piece(int piece, int what) {
        if (!now.plan.hasPiece(piece)) {
            return NO_SUCH;
        }
        switch (what) {
            case 0: return now.plan.heat[piece];
            case 1: return now.plan.thick[piece];
            case 2: return now.plan.bears[piece];
            case 3: return now.plan.comes[piece];
            default: return NO_SUCH;
        }
    }

    // ---- where each piece is

    public int air(int zone, int step) {
        if (!now.plan.hasZone(zone) || !now.plan.hasStep(step)) {
            return NO_SUCH;
        }
        return now.airAt(zone, step, now.acts.gustSteps);
    }

    public int where(int piece, int step) {
        if (!now.plan.hasPiece(piece) || !now.plan.hasStep(step)) {
            return NO_SUCH;
        }
        return now.plan.placeAt(piece, step);
    }

    public int inside(int zone, int step) {
        if (!now.plan.hasZone(zone) || !now.plan.hasStep(step)) {
            return NO_SUCH;
        }
        return now.plan.piecesAt(zone, step);
    }

    public int out(int step) {
        return now.plan.hasStep(step) ? now.plan.piecesAt(OUT, step) : NO_SUCH;
    }

    public int leaves(int piece) {
        return now.plan.hasPiece(piece) ? now.plan.leavingStep(piece) : NO_SUCH;
    }

    // ---- skin, core and strain

    public int skin(int piece, int step) {
        return ofPieceAt(OF_SKIN, piece, step);
    }

    public int core(int piece, int step) {
        return ofPieceAt(OF_CORE, piece, step);
    }

    public int strain(int piece, int step) {
        return ofPieceAt(OF_STRAIN, piece, step);
    }

    private int ofPieceAt(int kind, int piece, int step) {
        if (!now.plan.hasPiece(piece) || !now.plan.hasStep(step)) {
            return NO_SUCH;
        }
        return followedCourse().valueAt(kind, piece, step);
    }

    public int peak(int piece) {
        return now.plan.hasPiece(piece) ? followedCourse().peakOf(piece) : NO_SUCH;
    }

    public int when(int piece) {
        return now.plan.hasPiece(piece) ? followedCourse().peakStepOf(piece) : NO_SUCH;
    }

    public int frozen(int piece) {
        return now.plan.hasPiece(piece) ? followedCourse().frozenIn[piece] : NO_SUCH;
    }

    public int sets(int piece) {
        return now.plan.hasPiece(piece) ? followedCourse().setStep[piece] : NO_SUCH;
    }

    public int cracks(int piece) {
        return now.plan.hasPiece(piece) ? followedCourse().crackStep[piece] : NO_SUCH;
    }

    public int why(int piece) {
        return now.plan.hasPiece(piece) ? followedCourse().reason[piece] : NO_SUCH;
    }

    // ---- all pieces

    public int whole(int step) {
        if (!now.plan.hasStep(step)) {
            return NO_SUCH;
        }
        return now.plan.comeBy(step) & followedCourse().uncrackedAt(step);
    }

    public int sound() {
        return now.plan.isTold() ? followedCourse().neverCracked() : NO_SUCH;
    }

    public int good() {
        if (!now.plan.isTold()) {
            return NO_SUCH;
        }
        return now.plan.piecesAt(OUT, now.plan.steps) & followedCourse().neverCracked();
    }

    public int tight(int step) {
        return now.plan.hasStep(step) ? followedCourse().mostOf(OF_STRAIN, step) : NO_SUCH;
    }

    public int hottest(int step) {
        return now.plan.hasStep(step) ? followedCourse().mostOf(OF_SKIN, step) : NO_SUCH;
    }

    public int glow(int step) {
        return now.plan.hasStep(step) ? followedCourse().skinsTogether(step) : NO_SUCH;
    }

    public int worst() {
        return now.plan.isTold() ? followedCourse().worstStep() : NO_SUCH;
    }

    public int sore() {
        return now.plan.isTold() ? followedCourse().sorestZone() : NO_SUCH;
    }

    // ---- one piece in its steps

    public int tense(int piece) {
        return now.plan.hasPiece(piece) ? followedCourse().tenseSteps(piece) : NO_SUCH;
    }

    public int warms(int piece) {
        return now.plan.hasPiece(piece) ? followedCourse().warmingSteps(piece) : NO_SUCH;
    }

    public int cool(int piece, int n) {
        if (!now.plan.hasPiece(piece) || n < 0 || n > MOST_HEAT) {
            return NO_SUCH;
        }
        return followedCourse().firstStepAtMost(piece, n);
    }

    public int still(int piece) {
        return now.plan.hasPiece(piece) ? followedCourse().stillFrom(piece) : NO_SUCH;
    }

    // ---- zones

    public int pairs(int step) {
        if (!now.plan.hasStep(step)) {
            return NO_SUCH;
        }
        int pairs = 0;
        for (int zone = 0; zone < now.plan.zones; zone++) {
            int pieces = Integer.bitCount(now.plan.piecesAt(zone, step));
            pairs += pieces * (pieces - 1) / 2;
        }
        return pairs;
    }

    public int crowd() {
        if (!now.plan.isTold()) {
            return NO_SUCH;
        }
        int most = 0;
        for (int zone = 0; zone < now.plan.zones; zone++) {
            for (int step = 0; step <= now.plan.steps; step++) {
                most = Math.max(most, Integer.bitCount(now.plan.piecesAt(zone, step)));
            }
        }
        return most;
    }

    public int oven(int step) {
        if (!now.plan.hasStep(step)) {
            return NO_SUCH;
        }
        int hottest = NONE;
        for (int zone = 0; zone < now.plan.zones; zone++) {
            if (hottest == NONE || airNow(zone, step) > airNow(hottest, step)) {
                hottest = zone;
            }
        }
        return hottest;
    }

    public int fall(int zone, int step) {
        if (!now.plan.hasZone(zone) || !now.plan.hasZone(zone + 1) || !now.plan.hasStep(step)) {
            return NO_SUCH_FALL;
        }
        return airFall(zone, step);
    }

    public int cliff(int step) {
        if (!now.plan.hasStep(step)) {
            return NO_SUCH;
        }
        int steepest = NONE;
        for (int zone = 0; zone + 1 < now.plan.zones; zone++) {
            if (steepest == NONE || airFall(zone, step) > airFall(steepest, step)) {
                steepest = zone;
            }
        }
        return steepest;
    }

    private int airNow(int zone, int step) {
        return now.airAt(zone, step, now.acts.gustSteps);
    }

    private int airFall(int zone, int step) {
        return airNow(zone, step) - airNow(zone + 1, step);
    }

    // ---- more of one piece

    public int least(int piece) {
        return now.plan.hasPiece(piece) ? followedCourse().leastSkin(piece) : NO_SUCH;
    }

    public int chill(int piece) {
        return now.plan.hasPiece(piece) ? followedCourse().chillStep(piece) : NO_SUCH;
    }

    public int drop(int piece, int step) {
        if (!now.plan.hasPiece(piece) || !now.plan.hasStepAhead(step)) {
            return NO_SUCH_DROP;
        }
        return followedCourse().skinFall(piece, step);
    }

    public int gaps(int piece) {
        return now.plan.hasPiece(piece) ? followedCourse().strainedSteps(piece) : NO_SUCH;
    }

    // ---- more of one step

    public int spread(int step) {
        return now.plan.hasStep(step) ? followedCourse().skinSpread(step) : NO_SUCH;
    }

    public int coming(int step) {
        return now.plan.hasStep(step) ? now.plan.comingAt(step) : NO_SUCH;
    }

    public int cracked(int step) {
        return now.plan.hasStep(step) ? followedCourse().crackingAt(step) : NO_SUCH;
    }

    public int kernel(int step) {
        return now.plan.hasStep(step) ? followedCourse().mostOf(OF_CORE, step) : NO_SUCH;
    }

    public int tally(int what) {
        if (!now.plan.isTold() || what < 0 || what > BY_FROZEN) {
            return NO_SUCH;
        }
        return followedCourse().countOfReason(what);
    }

    public int last(int zone) {
        if (!now.plan.hasZone(zone)) {
            return NO_SUCH;
        }
        int last = NONE;
        for (int step = 0; step <= now.plan.steps; step++) {
            if (now.plan.piecesAt(zone, step) != 0) {
                last = step;
            }
        }
        return last;
    }

    public int busy(int zone) {
        return now.plan.hasZone(zone) ? now.plan.busySteps(zone) : NO_SUCH;
    }

    public int idle() {
        if (!now.plan.isTold()) {
            return NO_SUCH;
        }
        int idle = 0;
        for (int zone = 0; zone < now.plan.zones; zone++) {
            if (now.plan.busySteps(zone) == 0) {
                idle |= 1 << zone;
            }
        }
        return idle;
    }

    public int stiff(int step) {
        return now.plan.hasStep(step) ? followedCourse().stiffAt(step) : NO_SUCH;
    }

    // ---- what might be otherwise

    public int spare(int piece) {
        if (!now.plan.hasPiece(piece)) {
            return NO_SUCH;
        }
        int spare = now.plan.bears[piece] - trials.strengthFor(piece);
        return spare < 0 ? NONE : spare;
    }

    public int needs(int piece) {
        if (!now.plan.hasPiece(piece)) {
            return NO_SUCH;
        }
        int needed = trials.strengthFor(piece);
        return needed > MOST_BORNE ? NONE : needed;
    }

    public int thin(int piece) {
        return now.plan.hasPiece(piece) ? trials.greatestThick(piece) : NO_SUCH;
    }

    public int pace() {
        return now.plan.isTold() ? trials.bestPace() : NO_SUCH;
    }

    public int paced() {
        return now.plan.isTold() ? trials.soundByPace(trials.bestPace()) : NO_SUCH;
    }

    public int raise(int zone, int piece) {
        if (!now.plan.hasZone(zone) || !now.plan.hasPiece(piece)) {
            return NO_SUCH;
        }
        return trials.leastRaise(zone, piece, MOST_RAISE);
    }

    public int rescue(int piece) {
        return now.plan.hasPiece(piece) ? trials.bestZoneFor(piece) : NO_SUCH;
    }

    public int swap() {
        return now.plan.isTold() ? trials.bestSwap() : NO_SUCH;
    }

    public int skip() {
        return now.plan.isTold() ? trials.bestSkip() : NO_SUCH;
    }

    // ---- what was seen

    public int airs(int slot, int zone) {
        int refusal = refusalOfSeen(slot, now.plan.hasZone(zone));
        return refusal != 0 ? refusal : trials.countOfAirs(rowOf(slot), zone);
    }

    public int low(int slot, int zone) {
        int refusal = refusalOfSeen(slot, now.plan.hasZone(zone));
        return refusal != 0 ? refusal : trials.lowestAir(rowOf(slot), zone);
    }

    public int high(int slot, int zone) {
        int refusal = refusalOfSeen(slot, now.plan.hasZone(zone));
        return refusal != 0 ? refusal : trials.highestAir(rowOf(slot), zone);
    }

    public int thicks(int slot, int piece) {
        int refusal = refusalOfSeen(slot, now.plan.hasPiece(piece));
        return refusal != 0 ? refusal : trials.thicksSeen(rowOf(slot), piece);
    }

    public int laws(int slot) {
        int refusal = refusalOfSeen(slot, now.plan.isTold());
        return refusal != 0 ? refusal : trials.lawsSeen(rowOf(slot));
    }

    /** Why a slot's row is not looked at (0: it is); its numbers are asked last. */
    private int refusalOfSeen(int slot, boolean isThere) {
        Row row = rowOf(slot);
        if (row == null || !isThere) {
            return NO_SUCH;
        }
        if (!row.kept) {
            return HAS_NOTHING;
        }
        return row.tellsSkins(now.plan) ? 0 : NO_SUCH;
    }

    // ---- laws, shares, a game

    public int by(int law) {
        if (!now.plan.isTold() || law < 0 || law >= LAWS) {
            return NO_SUCH;
        }
        return trials.soundBitsByLaw(law);
    }

    public int law() {
        return now.plan.isTold() ? trials.bestLaw() : NO_SUCH;
    }

    public int worth(int set) {
        if (!now.plan.isTold() || set < 0 || set >= 1 << now.plan.zones) {
            return NO_SUCH;
        }
        return trials.worthOf(set);
    }

    public int share(int zone, int what) {
        if (!now.plan.hasZone(zone) || isNoPart(what)) {
            return NO_SUCH_SHARE;
        }
        return (int) trials.shareOf(zone).part(what);
    }

    public int rests(int zone, int other) {
        return isPairOfZones(zone, other) ? trials.restingChoices(zone, other) : NO_SUCH;
    }

    public int gets(int zone, int other, int fired, int otherFired, int what) {
        if (!isPairOfZones(zone, other) || isNoPart(what)) {
            return NO_SUCH_GAIN;
        }
        if (fired < 0 || fired > 1 || otherFired < 0 || otherFired > 1) {
            return NO_SUCH_GAIN;
        }
        return trials.gain(zone, other, fired + 2 * otherFired, what);
    }

    private boolean isPairOfZones(int zone, int other) {
        return now.plan.hasZone(zone) && now.plan.hasZone(other) && zone != other;
    }

    /** Of a fraction, and of two players, there are part 0 and part 1. */
    private static boolean isNoPart(int what) {
        return what != 0 && what != 1;
    }

    // ---- chance

    public int chance(int piece, int step, int what) {
        if (!now.plan.hasPiece(piece) || !isChanceStep(step) || isNoPart(what)) {
            return NO_SUCH;
        }
        return (int) odds.meanUncracked(1 << piece, step).part(what);
    }

    public long mean(int step, int what) {
        if (!isChanceStep(step) || isNoPart(what)) {
            return NO_SUCH;
        }
        return odds.meanUncracked(EVERY_PIECE, step).part(what);
    }

    private boolean isChanceStep(int step) {
        return step >= 1 && step <= MOST_CHANCE_STEP && now.plan.hasStep(step);
    }

    // ---- acts

    public int fires(int zone, int n, int step) {
        if (!now.plan.hasZone(zone) || n < 1 || n > MOST_RAISE || !now.plan.hasStep(step)) {
            return NO_SUCH;
        }
        if (!now.acts.addFire(zone, n, step)) {
            return ACTS_FORBID;
        }
        followed = false;
        return soundNow();
    }

    public int gusts(int step) {
        if (!now.plan.hasStepAhead(step)) {
            return NO_SUCH;
        }
        if (!now.acts.addGust(step)) {
            return ACTS_FORBID;
        }
        followed = false;
        return soundNow();
    }

    public int undo() {
        if (!now.plan.isTold()) {
            return NO_SUCH;
        }
        if (!now.acts.takeBack()) {
            return ACTS_FORBID;
        }
        followed = false;
        return now.acts.count;
    }

    public int anew() {
        if (!now.plan.isTold()) {
            return NO_SUCH;
        }
        int acts = now.acts.count;
        now.acts.clear();
        followed = false;
        return acts;
    }

    private int soundNow() {
        return Integer.bitCount(followedCourse().neverCracked());
    }

    // ---- draughts drawn

    public int drawn(int seed, int what) {
        if (!now.plan.isTold() || seed < 0 || seed > MOST_SEED || isNoPart(what)) {
            return NO_SUCH;
        }
        return what == 0 ? odds.draughtsFrom(seed) : odds.soundFrom(seed);
    }

    public int luck(int seed, int n, int piece) {
        if (!now.plan.hasPiece(piece) || seed < 0 || seed > MOST_SEED) {
            return NO_SUCH;
        }
        return n < 1 || n > MOST_SEEDS ? NO_SUCH : odds.timesSound(seed, n, piece);
    }

    public int rate(int piece, int n) {
        if (!now.plan.hasPiece(piece) || n < 0 || n > MOST_BORNE) {
            return NO_SUCH;
        }
        if (now.acts.count > 0) {
            return ACTS_FORBID;
        }
        int bore = now.plan.bears[piece];
        now.plan.bears[piece] = n;
        followed = false;
        return bore;
    }

    // ---- counts, images, slots

    public int count(int what) {
        switch (what) {
            case 0: return now.plan.steps;
            case 1: return now.plan.law;
            case 2: return now.plan.odds;
            case 3: return now.plan.pace;
            case 4: return now.plan.set;
            case 5: return now.plan.zones;
            case 6: return now.plan.pieces;
            case 7: return now.acts.count;
            case 8: return now.plan.lines;
            case 9: return tape.length;
            case 10: return slotsWithRows();
            default: return NONE;
        }
    }

    public int image(int k) {
        if (!hasImage(k)) {
            return NO_SUCH;
        }
        images[k].copyFrom(now);
        imaged[k] = true;
        return 0;
    }

    public int back(int k) {
        if (!hasImage(k)) {
            return NO_SUCH;
        }
        if (!imaged[k]) {
            return HAS_NOTHING;
        }
        now.copyFrom(images[k]);
        followed = false;
        return 0;
    }

    public int row(int slot, int width, int n) {
        Row row = rowOf(slot);
        if (row == null || width < 0 || width >= WIDTHS || n > MAX_NUMBERS) {
            return NO_SUCH;
        }
        if (n < 0) {
            return BELOW_NOTHING;
        }
        row.make(width, n);
        return 0;
    }

    public int write(int slot, int i, long v) {
        Row row = rowOf(slot);
        if (row == null) {
            return NO_SUCH;
        }
        if (!row.kept) {
            return HAS_NOTHING;
        }
        return row.put(i, v) ? 0 : BEYOND;
    }

    public int paste(int slot, int i, int to, int k, int n) {
        Row from = rowOf(slot);
        Row onto = rowOf(to);
        if (from == null || onto == null) {
            return NO_SUCH;
        }
        if (!from.kept || !onto.kept) {
            return HAS_NOTHING;
        }
        if (from.width != onto.width) {
            return UNLIKE;
        }
        if (!from.holds(i, n) || !onto.holds(k, n)) {
            return BEYOND;
        }
        System.arraycopy(from.numbers, i, onto.numbers, k, n);
        return 0;
    }

    private static boolean hasImage(int k) {
        return k >= 0 && k < IMAGES;
    }

    private Row rowOf(int slot) {
        return slot >= 0 && slot < SLOTS ? rows[slot] : null;
    }

    private int slotsWithRows() {
        int kept = 0;
        for (int slot = 0; slot < SLOTS; slot++) {
            if (rows[slot].kept) {
                kept++;
            }
        }
        return kept;
    }

    /** Most calls ask of one course, so it is gone through once for each change. */
    private Course followedCourse() {
        if (!followed) {
            course.follow(NO_DRAUGHT, now.plan.steps, EVERY_PIECE);
            followed = true;
        }
        return course;
    }

    /** The bytes that were fed. */
    static final class Tape {
        private final byte[] bytes = new byte[MAX_TAPE];
        int length = 0;

        boolean hasRoom(int n) {
            return length + n <= MAX_TAPE;
        }

        void append(int number) {
            for (int shift = 24; shift >= 0 && length < bytes.length; shift -= 8) {
                bytes[length] = (byte) (number >> shift);
                length++;
            }
        }

        boolean cutTo(int n) {
            if (n < 0 || n > length) {
                return false;
            }
            length = n;
            return true;
        }

        /** A byte of the tape; behind its end a blank, which ends any token. */
        int byteAt(int i) {
            return i >= 0 && i < length && i < bytes.length ? bytes[i] : ' ';
        }
    }

    /** Reads a tape token by token, up to its first fault. */
    static final class Reader {
        private static final int NO_TOKEN = 0;
        private static final int WORD = 1;
        private static final int NUMBER = 2;
        private static final int SIGN = 3;
        private static final int END = 4;

        private static final int MISPLACED = 1;
        private static final int OUT_OF_BOUNDS = 2;
        private static final int TOO_MANY = 3;

        private final Tape tape;
        private int kind;
        private int start;
        private int stop;
        int fault;
        int place;

        Reader(Tape tape) {
            this.tape = tape;
            fault = 0;
            place = NONE;
        }

        void readInto(Plan plan) {
            fault = 0;
            place = NONE;
            stop = 0;
            nextToken();
            for (int line = 0; line < MAX_TAPE && fault == 0 && kind != END; line++) {
                readLine(plan);
            }
        }

        private void readLine(Plan plan) {
            if (plan.lines == 0) {
                readHead(plan);
            } else if (isWord("zone")) {
                readZone(plan);
            } else if (isWord("piece")) {
                readPiece(plan);
            } else {
                fail(MISPLACED);
            }
            expectSign();
            if (fault == 0) {
                plan.lines++;
            }
        }

        private void readHead(Plan plan) {
            expectWord("lehr");
            plan.steps = readNamed("steps", 1, MAX_STEPS);
            plan.law = readNamed("law", 0, LAWS - 1);
            plan.odds = readNamed("odds", 0, TENTHS);
            plan.pace = readNamed("pace", 1, 4);
            plan.set = readNamed("set", 0, MOST_HEAT);
        }

        private void readZone(Plan plan) {
            if (plan.zones >= MAX_ZONES) {
                fail(TOO_MANY);
                return;
            }
            plan.told[plan.zones] = readNamed("zone", 0, MOST_HEAT);
            plan.zones++;
        }

        private void readPiece(Plan plan) {
            if (plan.pieces >= MAX_PIECES) {
                fail(TOO_MANY);
                return;
            }
            int piece = plan.pieces;
            expectWord("piece");
            plan.heat[piece] = readNamed("heat", 0, MOST_HEAT);
            plan.thick[piece] = readNamed("thick", 1, MOST_THICK);
            plan.bears[piece] = readNamed("bears", 0, MOST_BORNE);
            plan.comes[piece] = readNamed("at", 0, MAX_STEPS);
            plan.pieces++;
        }

        private int readNamed(String word, int least, int most) {
            expectWord(word);
            if (fault != 0) {
                return least;
            }
            if (kind != NUMBER) {
                fail(MISPLACED);
                return least;
            }
            int number = tokenNumber();
            if (number < least || number > most) {
                fail(OUT_OF_BOUNDS);
                return least;
            }
            nextToken();
            return number;
        }

        private void expectWord(String word) {
            if (fault != 0) {
                return;
            }
            if (isWord(word)) {
                nextToken();
            } else {
                fail(MISPLACED);
            }
        }

        private void expectSign() {
            if (fault != 0) {
                return;
            }
            if (kind == SIGN) {
                nextToken();
            } else {
                fail(MISPLACED);
            }
        }

        private void fail(int found) {
            fault = found;
            place = start;
        }

        private boolean isWord(String word) {
            if (kind != WORD || stop - start != word.length()) {
                return false;
            }
            for (int i = 0; i < word.length(); i++) {
                if (tape.byteAt(start + i) != word.charAt(i)) {
                    return false;
                }
            }
            return true;
        }

        /** Stays small however many digits there are, as no bound is beyond 600. */
        private int tokenNumber() {
            int number = 0;
            for (int i = start; i < stop; i++) {
                number = Math.min(number * 10 + tape.byteAt(i) - '0', MOST_HEAT + 1);
            }
            return number;
        }

        private void nextToken() {
            start = stop;
            while (start < tape.length && isBlank(tape.byteAt(start))) {
                start++;
            }
            stop = start;
            if (start >= tape.length) {
                kind = END;
                return;
            }
            kind = kindOf(tape.byteAt(start));
            stop++;
            if (kind != WORD && kind != NUMBER) {
                return;
            }
            while (stop < tape.length && kindOf(tape.byteAt(stop)) == kind) {
                stop++;
            }
        }

        private static boolean isBlank(int sign) {
            return sign == 32 || sign == 10;
        }

        private static int kindOf(int sign) {
            if (sign >= 'a' && sign <= 'z') {
                return WORD;
            }
            if (sign >= '0' && sign <= '9') {
                return NUMBER;
            }
            return sign == ';' ? SIGN : NO_TOKEN;
        }
    }

    /** The lehr as it was told; without lines there is none. */
    static final class Plan {
        int lines;
        int steps;
        int law;
        int odds;
        int pace;
        int set;
        int zones;
        int pieces;
        final int[] told = new int[MAX_ZONES];
        final int[] heat = new int[MAX_PIECES];
        final int[] thick = new int[MAX_PIECES];
        final int[] bears = new int[MAX_PIECES];
        final int[] comes = new int[MAX_PIECES];

        void clear() {
            lines = 0;
            steps = 0;
            law = 0;
            odds = 0;
            pace = 0;
            set = 0;
            zones = 0;
            pieces = 0;
        }

        void copyFrom(Plan other) {
            lines = other.lines;
            steps = other.steps;
            law = other.law;
            odds = other.odds;
            pace = other.pace;
            set = other.set;
            zones = other.zones;
            pieces = other.pieces;
            System.arraycopy(other.told, 0, told, 0, MAX_ZONES);
            System.arraycopy(other.heat, 0, heat, 0, MAX_PIECES);
            System.arraycopy(other.thick, 0, thick, 0, MAX_PIECES);
            System.arraycopy(other.bears, 0, bears, 0, MAX_PIECES);
            System.arraycopy(other.comes, 0, comes, 0, MAX_PIECES);
        }

        boolean isTold() {
            return lines > 0;
        }

        boolean hasZone(int zone) {
            return zone >= 0 && zone < zones;
        }

        boolean hasPiece(int piece) {
            return piece >= 0 && piece < pieces;
        }

        boolean hasStep(int step) {
            return isTold() && step >= 0 && step <= steps;
        }

        boolean hasStepAhead(int step) {
            return hasStep(step) && step < steps;
        }

        /** The zone of a piece, NONE before it comes, OUT behind the last zone. */
        int placeAt(int piece, int step) {
            if (piece < 0 || piece >= pieces || pace < 1 || step < comes[piece]) {
                return NONE;
            }
            int zone = (step - comes[piece]) / pace;
            return zone < zones ? zone : OUT;
        }

        int leavingStep(int piece) {
            if (!hasPiece(piece)) {
                return NONE;
            }
            int step = comes[piece] + zones * pace;
            return step <= steps ? step : NONE;
        }

        int piecesAt(int place, int step) {
            int found = 0;
            for (int piece = 0; piece < pieces; piece++) {
                if (placeAt(piece, step) == place) {
                    found |= 1 << piece;
                }
            }
            return found;
        }

        boolean hasCome(int piece, int step) {
            return hasPiece(piece) && comes[piece] <= step;
        }

        int comeBy(int step) {
            int come = 0;
            for (int piece = 0; piece < pieces; piece++) {
                if (hasCome(piece, step)) {
                    come |= 1 << piece;
                }
            }
            return come;
        }

        int comingAt(int step) {
            return comeBy(step) & ~comeBy(step - 1);
        }

        int busySteps(int zone) {
            int busy = 0;
            for (int step = 0; step <= steps; step++) {
                if (piecesAt(zone, step) != 0) {
                    busy++;
                }
            }
            return busy;
        }

        void changeOver(int zone, int other) {
            if (hasZone(zone) && hasZone(other)) {
                int kept = told[zone];
                told[zone] = told[other];
                told[other] = kept;
            }
        }

        void leaveOut(int zone) {
            if (hasZone(zone)) {
                System.arraycopy(told, zone + 1, told, zone, MAX_ZONES - 1 - zone);
                zones--;
            }
        }
    }

    /** Fires and gusts, in their order, and what they come to in each zone and step. */
    static final class Acts {
        /** In place of a zone: the act is a gust. */
        private static final int EVERYWHERE = -1;

        int count;
        int gustSteps;
        private final int[] zones = new int[MAX_ACTS];
        private final int[] heats = new int[MAX_ACTS];
        private final int[] steps = new int[MAX_ACTS];
        final int[] hotter = new int[MAX_ZONES * WIDE];

        void clear() {
            count = 0;
            gustSteps = 0;
            Arrays.fill(hotter, 0);
        }

        void copyFrom(Acts other) {
            count = other.count;
            gustSteps = other.gustSteps;
            System.arraycopy(other.zones, 0, zones, 0, MAX_ACTS);
            System.arraycopy(other.heats, 0, heats, 0, MAX_ACTS);
            System.arraycopy(other.steps, 0, steps, 0, MAX_ACTS);
            System.arraycopy(other.hotter, 0, hotter, 0, MAX_ZONES * WIDE);
        }

        boolean addFire(int zone, int n, int step) {
            if (!addAct(zone, n, step)) {
                return false;
            }
            heatUp(zone, n, step);
            return true;
        }

        boolean addGust(int step) {
            if (!addAct(EVERYWHERE, 0, step)) {
                return false;
            }
            gustSteps |= 1 << step;
            return true;
        }

        private boolean addAct(int zone, int n, int step) {
            if (count < 0 || count >= MAX_ACTS) {
                return false;
            }
            zones[count] = zone;
            heats[count] = n;
            steps[count] = step;
            count++;
            return true;
        }

        boolean takeBack() {
            if (count < 1 || count > MAX_ACTS) {
                return false;
            }
            count--;
            if (zones[count] == EVERYWHERE) {
                gatherGusts();
            } else {
                heatUp(zones[count], -heats[count], steps[count]);
            }
            return true;
        }

        /** A gust taken back may stand a second time, so all are gathered again. */
        private void gatherGusts() {
            gustSteps = 0;
            for (int act = 0; act < count && act < MAX_ACTS; act++) {
                if (zones[act] == EVERYWHERE) {
                    gustSteps |= 1 << steps[act];
                }
            }
        }

        private void heatUp(int zone, int n, int from) {
            if (zone < 0 || zone >= MAX_ZONES || from < 0) {
                return;
            }
            for (int step = from; step < WIDE; step++) {
                hotter[zone * WIDE + step] += n;
            }
        }

        /** For a trial: the zones behind keep their heat; the list of acts is not told of it. */
        void leaveOut(int zone) {
            if (zone >= 0 && zone < MAX_ZONES) {
                int next = (zone + 1) * WIDE;
                System.arraycopy(hotter, next, hotter, zone * WIDE, MAX_ZONES * WIDE - next);
            }
        }
    }

    /** A lehr and the acts done to it. */
    static final class Belt {
        final Plan plan = new Plan();
        final Acts acts = new Acts();

        void copyFrom(Belt other) {
            plan.copyFrom(other.plan);
            acts.copyFrom(other.acts);
        }

        int airAt(int zone, int step, int gustSteps) {
            if (zone < 0 || zone >= MAX_ZONES || step < 0 || step >= WIDE) {
                return 0;
            }
            int air = plan.told[zone] + acts.hotter[zone * WIDE + step];
            boolean gust = (gustSteps >> step & 1) != 0;
            return gust ? Math.max(air - GUST, 0) : air;
        }

        void leaveOut(int zone) {
            acts.leaveOut(zone);
            plan.leaveOut(zone);
        }
    }

    /** What becomes of the pieces of a belt, step by step. */
    static final class Course {
        private final Belt belt;
        private final Plan plan;
        private int gustSteps;
        private final int[] place = new int[MAX_PIECES * WIDE];
        private final int[] skins = new int[MAX_PIECES * WIDE];
        private final int[] cores = new int[MAX_PIECES * WIDE];
        final int[] crackStep = new int[MAX_PIECES];
        final int[] reason = new int[MAX_PIECES];
        final int[] frozenIn = new int[MAX_PIECES];
        final int[] setStep = new int[MAX_PIECES];

        Course(Belt belt) {
            this.belt = belt;
            this.plan = belt.plan;
        }

        /** Goes to a step with some pieces (bits); what is left of others tells nothing. */
        void follow(int draughts, int until, int pieces) {
            gustSteps = belt.acts.gustSteps | draughts;
            int wanted = plan.law == LAW_OF_MEAN ? EVERY_PIECE : pieces;
            int last = Math.min(until, MAX_STEPS);
            for (int piece = 0; piece < plan.pieces; piece++) {
                if ((wanted >> piece & 1) != 0) {
                    begin(piece, last);
                }
            }
            for (int step = 0; step < last; step++) {
                for (int piece = 0; piece < plan.pieces; piece++) {
                    if ((wanted >> piece & 1) != 0) {
                        advance(piece, step);
                    }
                }
            }
        }

        private void begin(int piece, int last) {
            int at = piece * WIDE;
            skins[at] = plan.heat[piece];
            cores[at] = plan.heat[piece];
            crackStep[piece] = NONE;
            reason[piece] = 0;
            frozenIn[piece] = NONE;
            setStep[piece] = NONE;
            for (int step = 0; step <= last; step++) {
                place[at + step] = plan.placeAt(piece, step);
            }
        }

        private void advance(int piece, int step) {
            int at = piece * WIDE + step;
            skins[at + 1] = skins[at];
            cores[at + 1] = cores[at];
            int zone = place[at];
            int thick = plan.thick[piece];
            if (zone == NONE || zone == OUT || crackStep[piece] != NONE || thick < 1) {
                return;
            }
            int goal = belt.airAt(zone, step, gustSteps);
            if (plan.law == LAW_OF_MEAN) {
                goal = meanAround(piece, zone, step, goal);
            }
            skins[at + 1] += warmingBy(goal - skins[at]);
            cores[at + 1] += (skins[at + 1] - cores[at]) / thick;
            setAndCrack(piece, step + 1);
        }

        /** How much warmer a skin becomes that is so far from where it goes. */
        private int warmingBy(int far) {
            switch (plan.law) {
                case LAW_AT_MOST: return Math.max(-MOST_BY_LAW, Math.min(far / 2, MOST_BY_LAW));
                case LAW_OF_THIRD: return far / 3;
                default: return far / 2;
            }
        }

        private int meanAround(int piece, int zone, int step, int air) {
            int sum = air;
            int many = 1;
            for (int other = 0; other < plan.pieces; other++) {
                int at = other * WIDE + step;
                if (other != piece && place[at] == zone) {
                    sum += skins[at];
                    many++;
                }
            }
            return sum / many;
        }

        /** A strain set in the very step in which the piece breaks is frozen in, too. */
        private void setAndCrack(int piece, int step) {
            int at = piece * WIDE + step;
            int strain = Math.abs(skins[at] - cores[at]);
            if (cores[at - 1] >= plan.set && cores[at] < plan.set) {
                frozenIn[piece] = strain;
                setStep[piece] = step;
            }
            if (strain > plan.bears[piece]) {
                crackStep[piece] = step;
                reason[piece] = BY_STRAIN;
            } else if (place[at] == OUT && frozenIn[piece] > plan.bears[piece] / 2) {
                crackStep[piece] = step;
                reason[piece] = BY_FROZEN;
            }
        }

        int valueAt(int kind, int piece, int step) {
            if (!plan.hasPiece(piece) || step < 0 || step >= WIDE) {
                return 0;
            }
            int at = piece * WIDE + step;
            switch (kind) {
                case OF_SKIN: return skins[at];
                case OF_CORE: return cores[at];
                default: return Math.abs(skins[at] - cores[at]);
            }
        }

        int skinAt(int piece, int step) {
            return valueAt(OF_SKIN, piece, step);
        }

        int strainAt(int piece, int step) {
            return valueAt(OF_STRAIN, piece, step);
        }

        /** By how much a skin falls to the next step. */
        int skinFall(int piece, int step) {
            return skinAt(piece, step) - skinAt(piece, step + 1);
        }

        int peakStepOf(int piece) {
            int peak = 0;
            for (int step = 1; step <= plan.steps; step++) {
                if (strainAt(piece, step) > strainAt(piece, peak)) {
                    peak = step;
                }
            }
            return peak;
        }

        int peakOf(int piece) {
            return strainAt(piece, peakStepOf(piece));
        }

        int uncrackedAt(int step) {
            int uncracked = 0;
            for (int piece = 0; piece < plan.pieces; piece++) {
                if (crackStep[piece] == NONE || crackStep[piece] > step) {
                    uncracked |= 1 << piece;
                }
            }
            return uncracked;
        }

        int neverCracked() {
            return uncrackedAt(MAX_STEPS);
        }

        int crackingAt(int step) {
            return uncrackedAt(step - 1) & ~uncrackedAt(step);
        }

        /** The piece, come, of which most is told in a step, the first of several. */
        int mostOf(int kind, int step) {
            int found = NONE;
            for (int piece = 0; piece < plan.pieces; piece++) {
                if (plan.hasCome(piece, step)
                        && (found == NONE || valueAt(kind, piece, step) > valueAt(kind, found, step))) {
                    found = piece;
                }
            }
            return found;
        }

        int skinsTogether(int step) {
            int sum = 0;
            for (int piece = 0; piece < plan.pieces; piece++) {
                if (plan.hasCome(piece, step)) {
                    sum += skinAt(piece, step);
                }
            }
            return sum;
        }

        int skinSpread(int step) {
            int hottest = mostOf(OF_SKIN, step);
            if (hottest == NONE) {
                return 0;
            }
            int spread = 0;
            for (int piece = 0; piece < plan.pieces; piece++) {
                if (plan.hasCome(piece, step)) {
                    spread = Math.max(spread, skinAt(hottest, step) - skinAt(piece, step));
                }
            }
            return spread;
        }

        int stiffAt(int step) {
            int stiff = 0;
            for (int piece = 0; piece < plan.pieces; piece++) {
                if (plan.hasCome(piece, step) && valueAt(OF_CORE, piece, step) < plan.set) {
                    stiff |= 1 << piece;
                }
            }
            return stiff;
        }

        int worstStep() {
            int worst = NONE;
            int most = 0;
            for (int step = 0; step <= plan.steps; step++) {
                int cracking = Integer.bitCount(crackingAt(step));
                if (cracking > most) {
                    most = cracking;
                    worst = step;
                }
            }
            return worst;
        }

        int sorestZone() {
            int sorest = NONE;
            int most = 0;
            for (int zone = 0; zone < plan.zones; zone++) {
                int cracking = crackingIn(zone);
                if (cracking > most) {
                    most = cracking;
                    sorest = zone;
                }
            }
            return sorest;
        }

        private int crackingIn(int zone) {
            int cracking = 0;
            for (int piece = 0; piece < plan.pieces; piece++) {
                if (crackStep[piece] != NONE && plan.placeAt(piece, crackStep[piece]) == zone) {
                    cracking++;
                }
            }
            return cracking;
        }

        int countOfReason(int asked) {
            int many = 0;
            for (int piece = 0; piece < plan.pieces; piece++) {
                if (reason[piece] == asked) {
                    many++;
                }
            }
            return many;
        }

        int tenseSteps(int piece) {
            int tense = 0;
            for (int step = 0; step <= plan.steps; step++) {
                if (plan.hasCome(piece, step) && skinAt(piece, step) < valueAt(OF_CORE, piece, step)) {
                    tense++;
                }
            }
            return tense;
        }

        int warmingSteps(int piece) {
            int warming = 0;
            for (int step = 0; step < plan.steps; step++) {
                if (skinFall(piece, step) < 0) {
                    warming++;
                }
            }
            return warming;
        }

        int firstStepAtMost(int piece, int n) {
            for (int step = 0; step <= plan.steps; step++) {
                if (plan.hasCome(piece, step) && skinAt(piece, step) <= n) {
                    return step;
                }
            }
            return NONE;
        }

        int stillFrom(int piece) {
            int from = plan.steps;
            while (from > 0 && skinAt(piece, from - 1) == skinAt(piece, plan.steps)) {
                from--;
            }
            return from;
        }

        int leastSkin(int piece) {
            int least = NONE;
            for (int step = 0; step <= plan.steps; step++) {
                int skin = skinAt(piece, step);
                if (plan.hasCome(piece, step) && (least == NONE || skin < least)) {
                    least = skin;
                }
            }
            return least;
        }

        int chillStep(int piece) {
            int chill = NONE;
            int most = 0;
            for (int step = 0; step < plan.steps; step++) {
                if (skinFall(piece, step) > most) {
                    most = skinFall(piece, step);
                    chill = step;
                }
            }
            return chill;
        }

        int strainedSteps(int piece) {
            if (!plan.hasPiece(piece)) {
                return 0;
            }
            int strained = 0;
            for (int step = 0; step <= plan.steps; step++) {
                if (strainAt(piece, step) > plan.bears[piece] / 2) {
                    strained++;
                }
            }
            return strained;
        }
    }

    /** A slot's row of numbers. */
    static final class Row {
        boolean kept = false;
        int width = 0;
        private int length = 0;
        final long[] numbers = new long[MAX_NUMBERS];

        void make(int newWidth, int n) {
            kept = true;
            width = newWidth;
            length = Math.max(0, Math.min(n, MAX_NUMBERS));
            Arrays.fill(numbers, 0L);
        }

        boolean put(int i, long v) {
            if (i < 0 || i >= length || i >= numbers.length) {
                return false;
            }
            numbers[i] = cutToWidth(v);
            return true;
        }

        private long cutToWidth(long v) {
            switch (width) {
                case 0: return (byte) v;
                case 1: return (short) v;
                case 2: return (int) v;
                default: return v;
            }
        }

        /** Whether n numbers from one on stand in the row. */
        boolean holds(int from, int n) {
            return from >= 0 && n >= 0 && (long) from + n <= length;
        }

        /** Whether the row is of threes: a piece, a step, a skin. */
        boolean tellsSkins(Plan plan) {
            if (length % 3 != 0) {
                return false;
            }
            for (int i = 0; i + 2 < length; i += 3) {
                long skin = numbers[i + 2];
                if (numbers[i] < 0 || numbers[i] >= plan.pieces || numbers[i + 1] < 0
                        || numbers[i + 1] > plan.steps || skin < 0 || skin > MOST_SKIN) {
                    return false;
                }
            }
            return true;
        }

        int piecesTold() {
            int pieces = 0;
            for (int i = 0; i + 2 < length; i += 3) {
                pieces |= 1 << (int) numbers[i];
            }
            return pieces;
        }

        int lastStepTold() {
            int last = 0;
            for (int i = 0; i + 2 < length; i += 3) {
                last = Math.max(last, (int) numbers[i + 1]);
            }
            return last;
        }

        boolean agreesWith(Course course) {
            for (int i = 0; i + 2 < length; i += 3) {
                if (course.skinAt((int) numbers[i], (int) numbers[i + 1]) != numbers[i + 2]) {
                    return false;
                }
            }
            return true;
        }
    }

    /** A fraction in lowest terms. */
    static final class Fraction {
        private long above = 0;
        private long below = 1;

        void put(long newAbove, long newBelow) {
            long divisor = commonDivisor(Math.abs(newAbove), newBelow);
            above = divisor > 0 ? newAbove / divisor : newAbove;
            below = divisor > 0 ? newBelow / divisor : newBelow;
        }

        long part(int what) {
            return what == 0 ? above : below;
        }

        private static long commonDivisor(long a, long b) {
            long greater = a;
            long lesser = b;
            for (int i = 0; i < 1_000 && lesser != 0; i++) {
                long rest = greater % lesser;
                greater = lesser;
                lesser = rest;
            }
            return greater;
        }
    }

    /** What would be if one thing were otherwise. */
    static final class Trials {
        private final Belt now;
        private final Belt trial = new Belt();
        private final Course course;
        private final Fraction fraction = new Fraction();
        private final int[] worths = new int[1 << MAX_ZONES];
        private final int[] gains = new int[8];

        Trials(Belt now) {
            this.now = now;
            this.course = new Course(trial);
        }

        private int soundBits() {
            course.follow(NO_DRAUGHT, trial.plan.steps, EVERY_PIECE);
            return course.neverCracked();
        }

        private int soundCount() {
            course.follow(NO_DRAUGHT, trial.plan.steps, EVERY_PIECE);
            return Integer.bitCount(course.neverCracked());
        }

        private boolean isSound(int piece) {
            course.follow(NO_DRAUGHT, trial.plan.steps, 1 << piece);
            return (course.neverCracked() >> piece & 1) != 0;
        }

        /** The least that a piece must bear, whatever it is: the course of one that bears all tells it. */
        int strengthFor(int piece) {
            trial.copyFrom(now);
            if (!trial.plan.hasPiece(piece)) {
                return 0;
            }
            trial.plan.bears[piece] = UNBREAKABLE;
            course.follow(NO_DRAUGHT, trial.plan.steps, 1 << piece);
            int strength = course.peakOf(piece);
            if (trial.plan.leavingStep(piece) != NONE) {
                strength = Math.max(strength, 2 * course.frozenIn[piece]);
            }
            return strength;
        }

        int greatestThick(int piece) {
            trial.copyFrom(now);
            if (!trial.plan.hasPiece(piece)) {
                return NONE;
            }
            for (int thick = MOST_THICK; thick >= 1; thick--) {
                trial.plan.thick[piece] = thick;
                if (isSound(piece)) {
                    return thick;
                }
            }
            return NONE;
        }

        int soundByPace(int pace) {
            trial.copyFrom(now);
            trial.plan.pace = pace;
            return soundCount();
        }

        int bestPace() {
            int best = 1;
            int most = soundByPace(1);
            for (int pace = 2; pace <= MOST_PACE; pace++) {
                int sound = soundByPace(pace);
                if (sound > most) {
                    most = sound;
                    best = pace;
                }
            }
            return best;
        }

        int leastRaise(int zone, int piece, int most) {
            trial.copyFrom(now);
            if (!trial.plan.hasZone(zone)) {
                return NONE;
            }
            for (int n = 0; n <= most; n++) {
                trial.plan.told[zone] = now.plan.told[zone] + n;
                if (isSound(piece)) {
                    return n;
                }
            }
            return NONE;
        }

        int bestZoneFor(int piece) {
            int best = NONE;
            int least = MOST_RAISE + 1;
            for (int zone = 0; zone < now.plan.zones; zone++) {
                int raise = leastRaise(zone, piece, least - 1);
                if (raise != NONE) {
                    least = raise;
                    best = zone;
                }
            }
            return best;
        }

        int bestSwap() {
            trial.copyFrom(now);
            int best = NONE;
            int most = soundCount();
            for (int zone = 0; zone < trial.plan.zones; zone++) {
                for (int other = zone + 1; other < trial.plan.zones; other++) {
                    trial.plan.changeOver(zone, other);
                    int sound = soundCount();
                    trial.plan.changeOver(zone, other);
                    if (sound > most) {
                        most = sound;
                        best = 10 * zone + other;
                    }
                }
            }
            return best;
        }

        int bestSkip() {
            trial.copyFrom(now);
            int best = NONE;
            int most = soundCount();
            for (int zone = 0; zone < now.plan.zones; zone++) {
                trial.copyFrom(now);
                trial.leaveOut(zone);
                int sound = soundCount();
                if (sound > most) {
                    most = sound;
                    best = zone;
                }
            }
            return best;
        }

        private boolean agrees(Row row) {
            course.follow(NO_DRAUGHT, row.lastStepTold(), row.piecesTold());
            return row.agreesWith(course);
        }

        private boolean agreesByAir(Row row, int zone, int heat) {
            if (!trial.plan.hasZone(zone)) {
                return false;
            }
            trial.plan.told[zone] = heat;
            return agrees(row);
        }

        int countOfAirs(Row row, int zone) {
            trial.copyFrom(now);
            int many = 0;
            for (int heat = 0; heat <= MOST_HEAT; heat++) {
                if (agreesByAir(row, zone, heat)) {
                    many++;
                }
            }
            return many;
        }

        int lowestAir(Row row, int zone) {
            trial.copyFrom(now);
            for (int heat = 0; heat <= MOST_HEAT; heat++) {
                if (agreesByAir(row, zone, heat)) {
                    return heat;
                }
            }
            return NONE;
        }

        int highestAir(Row row, int zone) {
            trial.copyFrom(now);
            for (int heat = MOST_HEAT; heat >= 0; heat--) {
                if (agreesByAir(row, zone, heat)) {
                    return heat;
                }
            }
            return NONE;
        }

        int thicksSeen(Row row, int piece) {
            trial.copyFrom(now);
            if (!trial.plan.hasPiece(piece)) {
                return 0;
            }
            int thicks = 0;
            for (int thick = 1; thick <= MOST_THICK; thick++) {
                trial.plan.thick[piece] = thick;
                if (agrees(row)) {
                    thicks |= 1 << thick;
                }
            }
            return thicks;
        }

        int lawsSeen(Row row) {
            trial.copyFrom(now);
            int laws = 0;
            for (int law = 0; law < LAWS; law++) {
                trial.plan.law = law;
                if (agrees(row)) {
                    laws |= 1 << law;
                }
            }
            return laws;
        }

        int soundBitsByLaw(int law) {
            trial.copyFrom(now);
            trial.plan.law = law;
            return soundBits();
        }

        int bestLaw() {
            int best = 0;
            int most = Integer.bitCount(soundBitsByLaw(0));
            for (int law = 1; law < LAWS; law++) {
                int sound = Integer.bitCount(soundBitsByLaw(law));
                if (sound > most) {
                    most = sound;
                    best = law;
                }
            }
            return best;
        }

        int worthOf(int set) {
            trial.copyFrom(now);
            for (int zone = 0; zone < trial.plan.zones; zone++) {
                if ((set >> zone & 1) == 0) {
                    trial.plan.told[zone] = 0;
                }
            }
            return soundCount();
        }

        /** Of all orders, those in which just a set stands ahead of the zone: so many times it counts. */
        Fraction shareOf(int zone) {
            int zones = now.plan.zones;
            int sets = Math.min(1 << zones, worths.length);
            for (int set = 0; set < sets; set++) {
                worths[set] = worthOf(set);
            }
            int own = 1 << zone;
            long sum = 0;
            for (int set = 0; set < sets; set++) {
                if ((set & own) == 0 && (set | own) < sets) {
                    int ahead = Integer.bitCount(set);
                    long orders = ordersOf(ahead) * ordersOf(zones - 1 - ahead);
                    sum += orders * (worths[set | own] - worths[set]);
                }
            }
            fraction.put(sum, ordersOf(zones));
            return fraction;
        }

        private static long ordersOf(int n) {
            long orders = 1;
            for (int i = 2; i <= n && i <= MAX_ZONES; i++) {
                orders *= i;
            }
            return orders;
        }

        /** What one of two gets; choices: 1 the first is fired, 2 the other one. */
        int gain(int zone, int other, int choices, int what) {
            trial.copyFrom(now);
            if (!trial.plan.hasZone(zone) || !trial.plan.hasZone(other)) {
                return NO_SUCH_GAIN;
            }
            trial.plan.told[zone] += FIRED * (choices & 1);
            trial.plan.told[other] += FIRED * (choices >> 1 & 1);
            int pieces = what == 0 ? EVEN_PIECES : EVERY_PIECE & ~EVEN_PIECES;
            return 3 * Integer.bitCount(soundBits() & pieces) - 2 * (choices >> what & 1);
        }

        int restingChoices(int zone, int other) {
            for (int i = 0; i < gains.length; i++) {
                gains[i] = gain(zone, other, i >> 1, i & 1);
            }
            int resting = 0;
            for (int choices = 0; choices < 4; choices++) {
                boolean firstStays = gains[2 * choices] >= gains[2 * (choices ^ 1)];
                boolean otherStays = gains[2 * choices + 1] >= gains[2 * (choices ^ 2) + 1];
                if (firstStays && otherStays) {
                    resting |= 1 << choices;
                }
            }
            return resting;
        }
    }

    /** Gusts by chance, and those drawn. */
    static final class Odds {
        private final Plan plan;
        private final Course course;
        private final Fraction fraction = new Fraction();

        Odds(Belt now) {
            plan = now.plan;
            course = new Course(now);
        }

        /** The mean of how many of some pieces (bits) are not cracked in a step. */
        Fraction meanUncracked(int pieces, int step) {
            long sum = 0;
            long all = 1;
            for (int i = 0; i < step && i < MAX_STEPS; i++) {
                all *= TENTHS;
            }
            for (int draughts = 0; draughts < 1 << Math.min(step, MAX_STEPS); draughts++) {
                long weight = weightOf(draughts, step);
                if (weight > 0) {
                    course.follow(draughts, step, pieces);
                    sum += weight * Integer.bitCount(course.uncrackedAt(step) & pieces);
                }
            }
            fraction.put(sum, all);
            return fraction;
        }

        /** In how many of ten to the power of the steps cases it is just these draughts. */
        private long weightOf(int draughts, int steps) {
            long weight = 1;
            for (int step = 0; step < steps && step < MAX_STEPS; step++) {
                boolean gust = (draughts >> step & 1) != 0;
                weight *= gust ? plan.odds : TENTHS - plan.odds;
            }
            return weight;
        }

        int draughtsFrom(long seed) {
            long x = seed;
            int draughts = 0;
            for (int step = 0; step < plan.steps && step < MAX_STEPS; step++) {
                x = (1_103_515_245L * x + 12_345L) % 2_147_483_648L;
                if (x / 65_536L % 10L < plan.odds) {
                    draughts |= 1 << step;
                }
            }
            return draughts;
        }

        int soundFrom(long seed) {
            course.follow(draughtsFrom(seed), plan.steps, EVERY_PIECE);
            return course.neverCracked();
        }

        int timesSound(int seed, int n, int piece) {
            int times = 0;
            for (int i = 0; i < n && i < MOST_SEEDS; i++) {
                course.follow(draughtsFrom((long) seed + i), plan.steps, 1 << piece);
                if ((course.neverCracked() >> piece & 1) != 0) {
                    times++;
                }
            }
            return times;
        }
    }
}
