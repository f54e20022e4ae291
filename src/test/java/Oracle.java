import java.math.BigInteger;
import java.util.ArrayList;
import java.util.Arrays;
import java.util.Collections;
import java.util.List;
import java.util.function.IntPredicate;
import java.util.function.IntUnaryOperator;
import java.util.regex.Matcher;
import java.util.regex.Pattern;

/**
 * The document once more, as plainly as can be and without regard to speed or room, so that
 * random runs of the class can be held against it: all is worked out anew at each call.
 */
public final class Oracle {
    private static final int NONE = -1;

    /** A piece as told. */
    private record Glass(int heat, int thick, int bears, int at) { }

    /** An act: a fire in a zone, or a gust (zone NONE). */
    private record Act(int zone, int n, int step) { }

    /** A lehr, what was done to it, and how much hotter each zone is in each step by that. */
    private static final class World {
        int steps;
        int law;
        int odds;
        int pace;
        int set;
        List<Integer> zones = new ArrayList<>();
        List<Glass> pieces = new ArrayList<>();
        List<Act> acts = new ArrayList<>();
        List<int[]> hotter = new ArrayList<>();

        World copy() {
            World w = new World();
            w.steps = steps;
            w.law = law;
            w.odds = odds;
            w.pace = pace;
            w.set = set;
            w.zones.addAll(zones);
            w.pieces.addAll(pieces);
            w.acts.addAll(acts);
            for (int[] row : hotter) {
                w.hotter.add(row.clone());
            }
            return w;
        }

        void gatherHeat() {
            hotter.clear();
            for (int z = 0; z < zones.size(); z++) {
                int[] row = new int[steps + 1];
                for (Act act : acts) {
                    for (int s = 0; s <= steps; s++) {
                        if (act.zone == z && s >= act.step) {
                            row[s] += act.n;
                        }
                    }
                }
                hotter.add(row);
            }
        }

        boolean gust(int step, int draughts) {
            return (draughts >> step & 1) == 1
                    || acts.stream().anyMatch(a -> a.zone == NONE && a.step == step);
        }

        int air(int zone, int step, int draughts) {
            int air = zones.get(zone) + hotter.get(zone)[step];
            return gust(step, draughts) ? Math.max(0, air - 80) : air;
        }

        int where(int piece, int step) {
            int at = pieces.get(piece).at;
            if (step < at) {
                return NONE;
            }
            int left = step - at;
            for (int z = 0; z < zones.size(); z++) {
                if (left < pace) {
                    return z;
                }
                left -= pace;
            }
            return 10;
        }

        World withLaw(int l) {
            World w = copy();
            w.law = l;
            return w;
        }

        World withPace(int p) {
            World w = copy();
            w.pace = p;
            return w;
        }

        World withAir(int zone, int heat) {
            World w = copy();
            w.zones.set(zone, heat);
            return w;
        }

        World withThick(int piece, int thick) {
            World w = copy();
            Glass g = pieces.get(piece);
            w.pieces.set(piece, new Glass(g.heat, thick, g.bears, g.at));
            return w;
        }

        World withBears(int piece, int bears) {
            World w = copy();
            Glass g = pieces.get(piece);
            w.pieces.set(piece, new Glass(g.heat, g.thick, bears, g.at));
            return w;
        }
    }

    /** What came of it, a column for each step. */
    private static final class Fate {
        final World w;
        final int[][] skin;
        final int[][] core;
        final int[] crack;
        final int[] why;
        final int[] frozen;
        final int[] sets;

        Fate(World world, int draughts) {
            w = world;
            int n = w.pieces.size();
            skin = new int[n][w.steps + 1];
            core = new int[n][w.steps + 1];
            crack = new int[n];
            why = new int[n];
            frozen = new int[n];
            sets = new int[n];
            Arrays.fill(crack, NONE);
            Arrays.fill(frozen, NONE);
            Arrays.fill(sets, NONE);
            for (int s = 0; s <= w.steps; s++) {
                for (int p = 0; p < n; p++) {
                    if (s == 0) {
                        skin[p][0] = w.pieces.get(p).heat;
                        core[p][0] = w.pieces.get(p).heat;
                    } else {
                        move(p, s - 1, draughts);
                    }
                    look(p, s);
                }
            }
        }

        private void move(int p, int s, int draughts) {
            skin[p][s + 1] = skin[p][s];
            core[p][s + 1] = core[p][s];
            int zone = w.where(p, s);
            if (zone == NONE || zone == 10 || crack[p] != NONE) {
                return;
            }
            int air = w.air(zone, s, draughts);
            int step = 0;
            if (w.law == 0) {
                step = (air - skin[p][s]) / 2;
            } else if (w.law == 1) {
                step = (air - skin[p][s]) / 2;
                step = step > 60 ? 60 : step < -60 ? -60 : step;
            } else if (w.law == 2) {
                List<Integer> around = new ArrayList<>(List.of(air));
                for (int q = 0; q < w.pieces.size(); q++) {
                    if (q != p && w.where(q, s) == zone) {
                        around.add(skin[q][s]);
                    }
                }
                int mean = around.stream().mapToInt(i -> i).sum() / around.size();
                step = (mean - skin[p][s]) / 2;
            } else {
                step = (air - skin[p][s]) / 3;
            }
            skin[p][s + 1] = skin[p][s] + step;
            core[p][s + 1] = core[p][s] + (skin[p][s + 1] - core[p][s]) / w.pieces.get(p).thick;
            if (core[p][s] >= w.set && core[p][s + 1] < w.set) {
                frozen[p] = strain(p, s + 1);
                sets[p] = s + 1;
            }
        }

        private void look(int p, int s) {
            if (crack[p] != NONE) {
                return;
            }
            boolean outFirst = w.where(p, s) == 10 && (s == 0 || w.where(p, s - 1) != 10);
            if (strain(p, s) > w.pieces.get(p).bears) {
                crack[p] = s;
                why[p] = 1;
            } else if (outFirst && frozen[p] != NONE && frozen[p] > w.pieces.get(p).bears / 2) {
                crack[p] = s;
                why[p] = 2;
            }
        }

        int strain(int p, int s) {
            return Math.abs(skin[p][s] - core[p][s]);
        }

        int sound() {
            return bits(w.pieces.size(), p -> crack[p] == NONE);
        }

        int soundCount() {
            return Integer.bitCount(sound());
        }

        boolean come(int p, int s) {
            return w.where(p, s) != NONE;
        }

        boolean cracked(int p, int s) {
            return crack[p] != NONE && crack[p] <= s;
        }
    }

    private static int bits(int n, IntPredicate is) {
        int found = 0;
        for (int i = 0; i < n; i++) {
            found |= is.test(i) ? 1 << i : 0;
        }
        return found;
    }

    private static int count(int n, IntPredicate is) {
        return Integer.bitCount(bits(n, is));
    }

    private static int first(int n, IntPredicate is) {
        for (int i = 0; i < n; i++) {
            if (is.test(i)) {
                return i;
            }
        }
        return NONE;
    }

    /** The first of those with the greatest value; NONE without any. */
    private static int top(int n, IntPredicate is, IntUnaryOperator value) {
        int best = NONE;
        for (int i = 0; i < n; i++) {
            if (is.test(i) && (best == NONE || value.applyAsInt(i) > value.applyAsInt(best))) {
                best = i;
            }
        }
        return best;
    }

    private final StringBuilder tape = new StringBuilder();
    private int fault = 0;
    private int place = NONE;
    private World now = null;
    private final World[] images = new World[3];
    private final boolean[] imaged = new boolean[3];
    private final Object[] rows = new Object[4];

    private boolean zoneIs(int z) {
        return now != null && z >= 0 && z < now.zones.size();
    }

    private boolean pieceIs(int p) {
        return now != null && p >= 0 && p < now.pieces.size();
    }

    private boolean stepIs(int s) {
        return now != null && s >= 0 && s <= now.steps;
    }

    private Fate fate() {
        return new Fate(now, 0);
    }

    public int feed(int a, int b, int c, int d, int e) {
        if (tape.length() + 20 > 600) {
            return NONE;
        }
        for (int n : new int[] {a, b, c, d, e}) {
            for (int i = 3; i >= 0; i--) {
                tape.append((char) (n >>> 8 * i & 255));
            }
        }
        return tape.length();
    }

    public int end(int n) {
        if (n < 0 || n > tape.length()) {
            return NONE;
        }
        tape.setLength(n);
        return n;
    }

    private static final class Fault extends RuntimeException {
        private static final long serialVersionUID = 1L;
        final int kind;
        final int place;

        Fault(int kind, int place) {
            this.kind = kind;
            this.place = place;
        }
    }

    private record Token(String text, int place) { }

    private static List<Token> tokens(String text) {
        List<Token> found = new ArrayList<>();
        Matcher m = Pattern.compile("[a-z]+|[0-9]+|[ \n]+|.", Pattern.DOTALL).matcher(text);
        while (m.find()) {
            if (!m.group().isBlank() || !m.group().matches("[ \n]+")) {
                found.add(new Token(m.group(), m.start()));
            }
        }
        found.add(new Token("", text.length()));
        return found;
    }

    private static final String[] LEHR = {"lehr", "steps", "1-14", "law", "0-3", "odds", "0-10", "pace",
        "1-4", "set", "0-600"};
    private static final String[] ZONE = {"zone", "0-600"};
    private static final String[] PIECE = {"piece", "heat", "0-600", "thick", "1-9", "bears", "0-300",
        "at", "0-14"};

    private static World parse(String text) {
        List<Token> all = tokens(text);
        World w = null;
        int i = 0;
        while (!all.get(i).text.isEmpty()) {
            Token head = all.get(i);
            String[] shape = w == null ? LEHR : head.text.equals("zone") ? ZONE : PIECE;
            if (shape == ZONE && w.zones.size() == 7 || shape == PIECE && head.text.equals("piece")
                    && w.pieces.size() == 6) {
                throw new Fault(3, head.place);
            }
            List<Integer> numbers = new ArrayList<>();
            for (String part : shape) {
                Token t = all.get(i++);
                if (part.matches("[a-z]+")) {
                    if (!t.text.equals(part)) {
                        throw new Fault(1, t.place);
                    }
                } else if (!t.text.matches("[0-9]+")) {
                    throw new Fault(1, t.place);
                } else {
                    BigInteger n = new BigInteger(t.text);
                    String[] bounds = part.split("-");
                    if (n.compareTo(new BigInteger(bounds[0])) < 0 || n.compareTo(new BigInteger(bounds[1])) > 0) {
                        throw new Fault(2, t.place);
                    }
                    numbers.add(n.intValue());
                }
            }
            if (!all.get(i).text.equals(";")) {
                throw new Fault(1, all.get(i).place);
            }
            i++;
            if (shape == LEHR) {
                w = new World();
                w.steps = numbers.get(0);
                w.law = numbers.get(1);
                w.odds = numbers.get(2);
                w.pace = numbers.get(3);
                w.set = numbers.get(4);
            } else if (shape == ZONE) {
                w.zones.add(numbers.get(0));
            } else {
                w.pieces.add(new Glass(numbers.get(0), numbers.get(1), numbers.get(2), numbers.get(3)));
            }
        }
        if (w != null) {
            w.gatherHeat();
        }
        return w;
    }

    public int lehr() {
        String text = tape.toString();
        tape.setLength(0);
        fault = 0;
        place = NONE;
        try {
            now = parse(text);
        } catch (Fault f) {
            fault = f.kind;
            place = f.place;
            return -4;
        }
        return count(8);
    }

    public int fault(int what) {
        return what == 0 ? fault : what == 1 ? place : NONE;
    }

    public int zone(int zone) {
        return zoneIs(zone) ? now.zones.get(zone) : -2;
    }

    public int piece(int piece, int what) {
        if (!pieceIs(piece) || what < 0 || what > 3) {
            return -2;
        }
        Glass g = now.pieces.get(piece);
        return List.of(g.heat, g.thick, g.bears, g.at).get(what);
    }

    public int air(int zone, int step) {
        return zoneIs(zone) && stepIs(step) ? now.air(zone, step, 0) : -2;
    }

    public int where(int piece, int step) {
        return pieceIs(piece) && stepIs(step) ? now.where(piece, step) : -2;
    }

    public int inside(int zone, int step) {
        return zoneIs(zone) && stepIs(step) ? bits(now.pieces.size(), p -> now.where(p, step) == zone) : -2;
    }

    public int out(int step) {
        return stepIs(step) ? bits(now.pieces.size(), p -> now.where(p, step) == 10) : -2;
    }

    public int leaves(int piece) {
        return pieceIs(piece) ? first(now.steps + 1, s -> now.where(piece, s) == 10) : -2;
    }

    public int skin(int piece, int step) {
        return pieceIs(piece) && stepIs(step) ? fate().skin[piece][step] : -2;
    }

    public int core(int piece, int step) {
        return pieceIs(piece) && stepIs(step) ? fate().core[piece][step] : -2;
    }

    public int strain(int piece, int step) {
        return pieceIs(piece) && stepIs(step) ? fate().strain(piece, step) : -2;
    }

    public int peak(int piece) {
        return pieceIs(piece) ? strain(piece, when(piece)) : -2;
    }

    public int when(int piece) {
        if (!pieceIs(piece)) {
            return -2;
        }
        Fate f = fate();
        return top(now.steps + 1, s -> true, s -> f.strain(piece, s));
    }

    public int frozen(int piece) {
        return pieceIs(piece) ? fate().frozen[piece] : -2;
    }

    public int sets(int piece) {
        return pieceIs(piece) ? fate().sets[piece] : -2;
    }

    public int cracks(int piece) {
        return pieceIs(piece) ? fate().crack[piece] : -2;
    }

    public int why(int piece) {
        return pieceIs(piece) ? fate().why[piece] : -2;
    }

    public int whole(int step) {
        if (!stepIs(step)) {
            return -2;
        }
        Fate f = fate();
        return bits(now.pieces.size(), p -> f.come(p, step) && !f.cracked(p, step));
    }

    public int sound() {
        return now != null ? fate().sound() : -2;
    }

    public int good() {
        if (now == null) {
            return -2;
        }
        Fate f = fate();
        return bits(now.pieces.size(), p -> now.where(p, now.steps) == 10 && f.crack[p] == NONE);
    }

    public int tight(int step) {
        if (!stepIs(step)) {
            return -2;
        }
        Fate f = fate();
        return top(now.pieces.size(), p -> f.come(p, step), p -> f.strain(p, step));
    }

    public int hottest(int step) {
        if (!stepIs(step)) {
            return -2;
        }
        Fate f = fate();
        return top(now.pieces.size(), p -> f.come(p, step), p -> f.skin[p][step]);
    }

    public int glow(int step) {
        if (!stepIs(step)) {
            return -2;
        }
        Fate f = fate();
        int sum = 0;
        for (int p = 0; p < now.pieces.size(); p++) {
            sum += f.come(p, step) ? f.skin[p][step] : 0;
        }
        return sum;
    }

    public int worst() {
        if (now == null) {
            return -2;
        }
        return top(now.steps + 1, s -> cracked(s) != 0, s -> Integer.bitCount(cracked(s)));
    }

    public int sore() {
        if (now == null) {
            return -2;
        }
        Fate f = fate();
        int[] many = new int[now.zones.size()];
        for (int p = 0; p < now.pieces.size(); p++) {
            if (f.crack[p] != NONE && now.where(p, f.crack[p]) != 10) {
                many[now.where(p, f.crack[p])]++;
            }
        }
        return top(many.length, z -> many[z] > 0, z -> many[z]);
    }

    public int tense(int piece) {
        if (!pieceIs(piece)) {
            return -2;
        }
        Fate f = fate();
        return count(now.steps + 1, s -> f.come(piece, s) && f.skin[piece][s] < f.core[piece][s]);
    }

    public int warms(int piece) {
        if (!pieceIs(piece)) {
            return -2;
        }
        Fate f = fate();
        return count(now.steps + 1, s -> s > 0 && f.skin[piece][s] > f.skin[piece][s - 1]);
    }

    public int cool(int piece, int n) {
        if (!pieceIs(piece) || n < 0 || n > 600) {
            return -2;
        }
        Fate f = fate();
        return first(now.steps + 1, s -> f.come(piece, s) && f.skin[piece][s] <= n);
    }

    public int still(int piece) {
        if (!pieceIs(piece)) {
            return -2;
        }
        int[] skin = fate().skin[piece];
        return first(now.steps + 1, s -> Arrays.stream(skin, s, skin.length).distinct().count() == 1);
    }

    public int pairs(int step) {
        if (!stepIs(step)) {
            return -2;
        }
        int pairs = 0;
        for (int p = 0; p < now.pieces.size(); p++) {
            for (int q = 0; q < p; q++) {
                int zone = now.where(p, step);
                pairs += zone != NONE && zone != 10 && zone == now.where(q, step) ? 1 : 0;
            }
        }
        return pairs;
    }

    public int crowd() {
        if (now == null) {
            return -2;
        }
        int most = 0;
        for (int s = 0; s <= now.steps; s++) {
            for (int z = 0; z < now.zones.size(); z++) {
                most = Math.max(most, Integer.bitCount(inside(z, s)));
            }
        }
        return most;
    }

    public int oven(int step) {
        return stepIs(step) ? top(now.zones.size(), z -> true, z -> air(z, step)) : -2;
    }

    public int fall(int zone, int step) {
        return zoneIs(zone) && zoneIs(zone + 1) && stepIs(step) ? air(zone, step) - air(zone + 1, step) : -10000;
    }

    public int cliff(int step) {
        return stepIs(step) ? top(now.zones.size() - 1, z -> true, z -> fall(z, step)) : -2;
    }

    public int least(int piece) {
        if (!pieceIs(piece)) {
            return -2;
        }
        Fate f = fate();
        int at = now.pieces.get(piece).at;
        return at > now.steps ? NONE : Arrays.stream(f.skin[piece], at, now.steps + 1).min().getAsInt();
    }

    public int chill(int piece) {
        return pieceIs(piece) ? top(now.steps, s -> drop(piece, s) > 0, s -> drop(piece, s)) : -2;
    }

    public int drop(int piece, int step) {
        if (!pieceIs(piece) || !stepIs(step) || step == now.steps) {
            return -100000;
        }
        Fate f = fate();
        return f.skin[piece][step] - f.skin[piece][step + 1];
    }

    public int gaps(int piece) {
        if (!pieceIs(piece)) {
            return -2;
        }
        Fate f = fate();
        return count(now.steps + 1, s -> f.strain(piece, s) > now.pieces.get(piece).bears / 2);
    }

    public int spread(int step) {
        if (!stepIs(step)) {
            return -2;
        }
        Fate f = fate();
        List<Integer> skins = new ArrayList<>();
        for (int p = 0; p < now.pieces.size(); p++) {
            if (f.come(p, step)) {
                skins.add(f.skin[p][step]);
            }
        }
        return skins.isEmpty() ? 0 : Collections.max(skins) - Collections.min(skins);
    }

    public int coming(int step) {
        return stepIs(step) ? bits(now.pieces.size(), p -> now.pieces.get(p).at == step) : -2;
    }

    public int cracked(int step) {
        if (!stepIs(step)) {
            return -2;
        }
        Fate f = fate();
        return bits(now.pieces.size(), p -> f.crack[p] == step);
    }

    public int kernel(int step) {
        if (!stepIs(step)) {
            return -2;
        }
        Fate f = fate();
        return top(now.pieces.size(), p -> f.come(p, step), p -> f.core[p][step]);
    }

    public int tally(int what) {
        if (now == null || what < 0 || what > 2) {
            return -2;
        }
        Fate f = fate();
        return count(now.pieces.size(), p -> f.why[p] == what);
    }

    public int last(int zone) {
        return zoneIs(zone) ? top(now.steps + 1, s -> inside(zone, s) != 0, s -> s) : -2;
    }

    public int busy(int zone) {
        return zoneIs(zone) ? count(now.steps + 1, s -> inside(zone, s) != 0) : -2;
    }

    public int idle() {
        return now != null ? bits(now.zones.size(), z -> busy(z) == 0) : -2;
    }

    public int stiff(int step) {
        if (!stepIs(step)) {
            return -2;
        }
        Fate f = fate();
        return bits(now.pieces.size(), p -> f.come(p, step) && f.core[p][step] < now.set);
    }

    private static boolean survives(World w, int piece) {
        return new Fate(w, 0).crack[piece] == NONE;
    }

    private static int soundCount(World w) {
        return new Fate(w, 0).soundCount();
    }

    public int spare(int piece) {
        if (!pieceIs(piece)) {
            return -2;
        }
        int bears = now.pieces.get(piece).bears;
        return top(301, n -> survives(now.withBears(piece, bears - n), piece), n -> n);
    }

    public int needs(int piece) {
        return pieceIs(piece) ? first(301, n -> survives(now.withBears(piece, n), piece)) : -2;
    }

    public int thin(int piece) {
        return pieceIs(piece) ? top(10, t -> t > 0 && survives(now.withThick(piece, t), piece), t -> t) : -2;
    }

    public int pace() {
        return now != null ? top(7, p -> p > 0, p -> soundCount(now.withPace(p))) : -2;
    }

    public int paced() {
        return now != null ? soundCount(now.withPace(pace())) : -2;
    }

    public int raise(int zone, int piece) {
        if (!zoneIs(zone) || !pieceIs(piece)) {
            return -2;
        }
        return first(201, n -> survives(now.withAir(zone, now.zones.get(zone) + n), piece));
    }

    public int rescue(int piece) {
        return pieceIs(piece) ? top(now.zones.size(), z -> raise(z, piece) != NONE, z -> -raise(z, piece)) : -2;
    }

    public int swap() {
        if (now == null) {
            return -2;
        }
        int best = top(100, k -> k / 10 < k % 10 && zoneIs(k % 10), k -> soundCount(swapped(k / 10, k % 10)));
        return best != NONE && soundCount(swapped(best / 10, best % 10)) > soundCount(now) ? best : NONE;
    }

    private World swapped(int a, int b) {
        return now.withAir(a, now.zones.get(b)).withAir(b, now.zones.get(a));
    }

    public int skip() {
        if (now == null) {
            return -2;
        }
        int best = top(now.zones.size(), z -> true, z -> soundCount(without(z)));
        return best != NONE && soundCount(without(best)) > soundCount(now) ? best : NONE;
    }

    private World without(int zone) {
        World w = now.copy();
        w.zones.remove(zone);
        w.hotter.remove(zone);
        return w;
    }

    private long[] seen(int slot) {
        Object row = rows[slot];
        int n = java.lang.reflect.Array.getLength(row);
        long[] seen = new long[n];
        for (int i = 0; i < n; i++) {
            seen[i] = java.lang.reflect.Array.getLong(row, i);
        }
        return seen;
    }

    private int refusal(int slot, boolean is) {
        if (slot < 0 || slot > 3 || !is) {
            return -2;
        }
        if (rows[slot] == null) {
            return -6;
        }
        long[] seen = seen(slot);
        for (int i = 0; i + 2 < seen.length; i += 3) {
            if (seen[i] != (int) seen[i] || !pieceIs((int) seen[i]) || seen[i + 1] != (int) seen[i + 1]
                    || !stepIs((int) seen[i + 1]) || seen[i + 2] < 0 || seen[i + 2] > 100000) {
                return -2;
            }
        }
        return seen.length % 3 == 0 ? 0 : -2;
    }

    private boolean agrees(int slot, World w) {
        Fate f = new Fate(w, 0);
        long[] seen = seen(slot);
        for (int i = 0; i < seen.length; i += 3) {
            if (f.skin[(int) seen[i]][(int) seen[i + 1]] != seen[i + 2]) {
                return false;
            }
        }
        return true;
    }

    public int airs(int slot, int zone) {
        int no = refusal(slot, zoneIs(zone));
        return no != 0 ? no : (int) java.util.stream.IntStream.rangeClosed(0, 600)
                .filter(h -> agrees(slot, now.withAir(zone, h))).count();
    }

    public int low(int slot, int zone) {
        int no = refusal(slot, zoneIs(zone));
        return no != 0 ? no : first(601, h -> agrees(slot, now.withAir(zone, h)));
    }

    public int high(int slot, int zone) {
        int no = refusal(slot, zoneIs(zone));
        return no != 0 ? no : top(601, h -> agrees(slot, now.withAir(zone, h)), h -> h);
    }

    public int thicks(int slot, int piece) {
        int no = refusal(slot, pieceIs(piece));
        return no != 0 ? no : bits(10, t -> t > 0 && agrees(slot, now.withThick(piece, t)));
    }

    public int laws(int slot) {
        int no = refusal(slot, now != null);
        return no != 0 ? no : bits(4, l -> agrees(slot, now.withLaw(l)));
    }

    public int by(int law) {
        return now != null && law >= 0 && law < 4 ? new Fate(now.withLaw(law), 0).sound() : -2;
    }

    public int law() {
        return now != null ? top(4, l -> true, l -> soundCount(now.withLaw(l))) : -2;
    }

    public int worth(int set) {
        if (now == null || set < 0 || set >= Math.pow(2, now.zones.size())) {
            return -2;
        }
        World w = now.copy();
        for (int z = 0; z < w.zones.size(); z++) {
            w.zones.set(z, (set >> z & 1) == 1 ? w.zones.get(z) : 0);
        }
        return soundCount(w);
    }

    private static long lowest(long above, long below, int what) {
        long g = BigInteger.valueOf(above).gcd(BigInteger.valueOf(below)).longValue();
        return what == 0 ? above / g : below / g;
    }

    /** The sum over all orders of the zones not yet in the set of what one is worth more by it. */
    private long overOrders(int zone, int set, int[] worths) {
        int n = now.zones.size();
        long sum = 0;
        for (int z = 0; z < n; z++) {
            if ((set >> z & 1) == 1) {
                continue;
            }
            if (z == zone) {
                long rest = 1;
                for (int i = 2; i <= n - Integer.bitCount(set) - 1; i++) {
                    rest *= i;
                }
                sum += rest * (worths[set | 1 << z] - worths[set]);
            } else {
                sum += overOrders(zone, set | 1 << z, worths);
            }
        }
        return sum;
    }

    public int share(int zone, int what) {
        if (!zoneIs(zone) || what < 0 || what > 1) {
            return -1000000;
        }
        int[] worths = new int[1 << now.zones.size()];
        Arrays.setAll(worths, this::worth);
        long orders = 1;
        for (int i = 2; i <= now.zones.size(); i++) {
            orders *= i;
        }
        return (int) lowest(overOrders(zone, 0, worths), orders, what);
    }

    public int gets(int zone, int other, int fired, int otherFired, int what) {
        if (!zoneIs(zone) || !zoneIs(other) || zone == other || fired < 0 || fired > 1 || otherFired < 0
                || otherFired > 1 || what < 0 || what > 1) {
            return -1000;
        }
        World w = now.withAir(zone, now.zones.get(zone) + 50 * fired);
        w = w.withAir(other, w.zones.get(other) + 50 * otherFired);
        Fate f = new Fate(w, 0);
        int pieces = count(w.pieces.size(), p -> p % 2 == what && f.crack[p] == NONE);
        return 3 * pieces - 2 * (what == 0 ? fired : otherFired);
    }

    public int rests(int zone, int other) {
        if (!zoneIs(zone) || !zoneIs(other) || zone == other) {
            return -2;
        }
        return bits(4, c -> {
            int a = c % 2;
            int b = c / 2;
            return gets(zone, other, a, b, 0) >= gets(zone, other, 1 - a, b, 0)
                    && gets(zone, other, a, b, 1) >= gets(zone, other, a, 1 - b, 1);
        });
    }

    /** Over all draughts, by a tree: how many pieces of some are whole in a step, times how likely. */
    private long likely(int pieces, int step, int from, int draughts) {
        if (from == step) {
            Fate f = new Fate(now, draughts);
            return count(now.pieces.size(), p -> (pieces >> p & 1) == 1 && !f.cracked(p, step));
        }
        return now.odds * likely(pieces, step, from + 1, draughts | 1 << from)
                + (10 - now.odds) * likely(pieces, step, from + 1, draughts);
    }

    private long meanOf(int pieces, int step, int what) {
        return lowest(likely(pieces, step, 0, 0), Math.round(Math.pow(10, step)), what);
    }

    public int chance(int piece, int step, int what) {
        if (!pieceIs(piece) || !stepIs(step) || step < 1 || step > 8 || what < 0 || what > 1) {
            return -2;
        }
        return (int) meanOf(1 << piece, step, what);
    }

    public long mean(int step, int what) {
        return !stepIs(step) || step < 1 || step > 8 || what < 0 || what > 1 ? -2 : meanOf(63, step, what);
    }

    private int act(Act act) {
        if (now.acts.size() == 30) {
            return -5;
        }
        now.acts.add(act);
        now.gatherHeat();
        return soundCount(now);
    }

    public int fires(int zone, int n, int step) {
        return zoneIs(zone) && n >= 1 && n <= 200 && stepIs(step) ? act(new Act(zone, n, step)) : -2;
    }

    public int gusts(int step) {
        return stepIs(step) && step < now.steps ? act(new Act(NONE, 0, step)) : -2;
    }

    public int undo() {
        if (now == null) {
            return -2;
        }
        if (now.acts.isEmpty()) {
            return -5;
        }
        now.acts.remove(now.acts.size() - 1);
        now.gatherHeat();
        return now.acts.size();
    }

    public int anew() {
        if (now == null) {
            return -2;
        }
        int many = now.acts.size();
        now.acts.clear();
        now.gatherHeat();
        return many;
    }

    private int draughts(long seed) {
        BigInteger x = BigInteger.valueOf(seed);
        int found = 0;
        for (int s = 0; s < now.steps; s++) {
            x = x.multiply(BigInteger.valueOf(1103515245)).add(BigInteger.valueOf(12345))
                    .mod(BigInteger.valueOf(2147483648L));
            int draw = x.divide(BigInteger.valueOf(65536)).mod(BigInteger.TEN).intValue();
            found |= draw < now.odds ? 1 << s : 0;
        }
        return found;
    }

    public int drawn(int seed, int what) {
        if (now == null || seed < 0 || seed > 2000000000 || what < 0 || what > 1) {
            return -2;
        }
        return what == 0 ? draughts(seed) : new Fate(now, draughts(seed)).sound();
    }

    public int luck(int seed, int n, int piece) {
        if (!pieceIs(piece) || seed < 0 || seed > 2000000000 || n < 1 || n > 20) {
            return -2;
        }
        return count(n, i -> new Fate(now, draughts((long) seed + i)).crack[piece] == NONE);
    }

    public int rate(int piece, int n) {
        if (!pieceIs(piece) || n < 0 || n > 300) {
            return -2;
        }
        if (!now.acts.isEmpty()) {
            return -5;
        }
        int bore = now.pieces.get(piece).bears;
        now = now.withBears(piece, n);
        return bore;
    }

    public int count(int what) {
        if (what == 9) {
            return tape.length();
        }
        if (what == 10) {
            return (int) Arrays.stream(rows).filter(r -> r != null).count();
        }
        if (what < 0 || what > 10) {
            return NONE;
        }
        if (now == null) {
            return 0;
        }
        return List.of(now.steps, now.law, now.odds, now.pace, now.set, now.zones.size(), now.pieces.size(),
                now.acts.size(), 1 + now.zones.size() + now.pieces.size()).get(what);
    }

    public int image(int k) {
        if (k < 0 || k > 2) {
            return -2;
        }
        images[k] = now == null ? null : now.copy();
        imaged[k] = true;
        return 0;
    }

    public int back(int k) {
        if (k < 0 || k > 2) {
            return -2;
        }
        if (!imaged[k]) {
            return -6;
        }
        now = images[k] == null ? null : images[k].copy();
        return 0;
    }

    public int row(int slot, int width, int n) {
        if (slot < 0 || slot > 3 || width < 0 || width > 3 || n > 60) {
            return -2;
        }
        if (n < 0) {
            return -3;
        }
        rows[slot] = switch (width) {
            case 0 -> new byte[n];
            case 1 -> new short[n];
            case 2 -> new int[n];
            default -> new long[n];
        };
        return 0;
    }

    public int write(int slot, int i, long v) {
        if (slot < 0 || slot > 3) {
            return -2;
        }
        Object row = rows[slot];
        if (row == null) {
            return -6;
        }
        if (i < 0 || i >= java.lang.reflect.Array.getLength(row)) {
            return -7;
        }
        if (row instanceof byte[] bytes) {
            bytes[i] = (byte) v;
        } else if (row instanceof short[] shorts) {
            shorts[i] = (short) v;
        } else if (row instanceof int[] ints) {
            ints[i] = (int) v;
        } else if (row instanceof long[] longs) {
            longs[i] = v;
        }
        return 0;
    }

    public int paste(int slot, int i, int to, int k, int n) {
        if (slot < 0 || slot > 3 || to < 0 || to > 3) {
            return -2;
        }
        if (rows[slot] == null || rows[to] == null) {
            return -6;
        }
        if (rows[slot].getClass() != rows[to].getClass()) {
            return -8;
        }
        try {
            System.arraycopy(rows[slot], i, rows[to], k, n);
        } catch (IndexOutOfBoundsException e) {
            return -7;
        }
        return 0;
    }
}
