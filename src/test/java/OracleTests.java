import java.lang.reflect.Method;
import java.util.ArrayList;
import java.util.Comparator;
import java.util.List;
import java.util.Random;

/** Random runs of calls, on the class and on the oracle: both must answer alike. */
public final class OracleTests {
    private static final String[] WORDS = {"lehr", "steps", "law", "odds", "pace", "set", "zone", "piece",
        "heat", "thick", "bears", "at", ";", "zon", "5", "601", "15", "0", "#", "A", "\t", "00000000000000000003",
        "99999999999999999999", ".", "-1"};

    private static final List<Method> CALLS = new ArrayList<>();

    private final Random random;
    private LehrBelt real;
    private Oracle oracle;
    private final StringBuilder told = new StringBuilder();
    private int calls;
    private int zones;
    private int pieces;
    private int steps;

    private OracleTests(long seed) {
        random = new Random(seed);
    }

    public static void main(String[] args) throws ReflectiveOperationException {
        int runs = args.length > 0 ? Integer.parseInt(args[0]) : 1500;
        for (Method m : LehrBelt.class.getDeclaredMethods()) {
            if (java.lang.reflect.Modifier.isPublic(m.getModifiers())) {
                CALLS.add(m);
            }
        }
        CALLS.sort(Comparator.comparing(Method::getName));
        Checks.is("methods of the face", CALLS.size(), 85);
        for (int seed = 0; seed < runs; seed++) {
            OracleTests run = new OracleTests(seed);
            if (!run.goes()) {
                Checks.holds("run of seed " + seed + ":\n" + run.told, false);
            } else {
                Checks.holds("run of seed " + seed, true);
            }
        }
        Checks.close("OracleTests");
    }

    private boolean goes() throws ReflectiveOperationException {
        real = new LehrBelt();
        oracle = new Oracle();
        boolean bare = random.nextInt(10) == 0;
        if (!bare && !tells(text())) {
            return false;
        }
        while (calls < 480) {
            int dice = random.nextInt(100);
            boolean alike = dice == 0 ? tells(text()) : dice == 1 ? tells(spoilt(text())) : dice == 2 ? seenRow()
                    : dice == 3 ? feeds(spoilt("")) : calls(CALLS.get(random.nextInt(CALLS.size())));
            if (!alike) {
                return false;
            }
        }
        return true;
    }

    private int upTo(int n) {
        return random.nextInt(n + 1);
    }

    private String text() {
        int mood = random.nextInt(3);
        steps = mood == 0 ? 14 : 1 + upTo(13);
        zones = mood == 0 ? 1 + upTo(3) : upTo(7);
        pieces = upTo(6);
        StringBuilder text = new StringBuilder();
        text.append("lehr steps ").append(steps).append(" law ").append(upTo(3)).append(" odds ")
                .append(upTo(10)).append(" pace ").append(1 + upTo(3)).append(" set ").append(upTo(600)).append(" ;");
        int z = 0;
        int p = 0;
        int base = upTo(600);
        while (z < zones || p < pieces) {
            if (z < zones && (p == pieces || random.nextBoolean())) {
                text.append("\nzone ").append(mood == 1 ? near(base) : upTo(600)).append(";");
                z++;
            } else {
                text.append(" piece heat ").append(mood == 1 ? near(base) : upTo(600)).append("thick ")
                        .append(1 + upTo(8)).append(" bears ").append(upTo(random.nextBoolean() ? 80 : 300))
                        .append(" at ").append(random.nextInt(3) == 0 ? upTo(14) : upTo(4)).append(";");
                p++;
            }
        }
        return random.nextInt(20) == 0 ? " " : text.toString();
    }

    private int near(int heat) {
        return Math.max(0, Math.min(600, heat + upTo(200) - 100));
    }

    /** A text with a word put in, cut out or put in place of another. */
    private String spoilt(String text) {
        StringBuilder spoilt = new StringBuilder(text);
        int at = upTo(spoilt.length());
        int to = Math.min(spoilt.length(), at + upTo(6));
        String word = random.nextInt(3) == 0 ? "" : WORDS[upTo(WORDS.length - 1)];
        spoilt.replace(at, to, random.nextBoolean() ? " " + word + " " : word);
        if (random.nextInt(4) == 0) {
            spoilt.setLength(upTo(spoilt.length()));
        }
        while (random.nextInt(4) == 0 && spoilt.length() < 560) {
            spoilt.append(random.nextBoolean() ? " zone 3;" : " piece heat 1 thick 1 bears 1 at 1;");
        }
        return spoilt.toString();
    }

    private boolean feeds(String text) {
        boolean alike = true;
        int from = real.count(9);
        for (int i = 0; i < text.length(); i += 20) {
            int[] n = Checks.twentyBytes(text, i);
            calls++;
            alike &= real.feed(n[0], n[1], n[2], n[3], n[4]) == oracle.feed(n[0], n[1], n[2], n[3], n[4]);
        }
        calls++;
        return alike & real.end(from + text.length()) == oracle.end(from + text.length());
    }

    private boolean tells(String text) throws ReflectiveOperationException {
        real.end(0);
        oracle.end(0);
        told.append("text ").append(text).append('\n');
        calls += 4;
        return feeds(text) && alike("lehr") && alike("fault", 0) && alike("fault", 1);
    }

    /** A slot's row of skins that were felt, now and then one of them by another zone's heat. */
    private boolean seenRow() throws ReflectiveOperationException {
        int many = upTo(4);
        int slot = upTo(3);
        boolean alike = alike("row", slot, 2 + upTo(1), 3 * many);
        for (int i = 0; i < many && real.count(6) > 0; i++) {
            int piece = upTo(real.count(6) - 1);
            int step = upTo(real.count(0));
            int skin = real.skin(piece, step) + (random.nextInt(8) == 0 ? 1 : 0);
            alike &= alike("write", slot, 3 * i, (long) piece) && alike("write", slot, 3 * i + 1, (long) step)
                    && alike("write", slot, 3 * i + 2, (long) skin);
        }
        int zone = upTo(7);
        return alike && alike("airs", slot, zone) && alike("low", slot, zone) && alike("high", slot, zone)
                && alike("thicks", slot, upTo(6)) && alike("laws", slot);
    }

    private boolean calls(Method m) throws ReflectiveOperationException {
        String name = m.getName();
        if (name.equals("lehr") || name.equals("end") && random.nextInt(4) != 0) {
            return true;
        }
        Object[] args = new Object[m.getParameterCount()];
        for (int i = 0; i < args.length; i++) {
            args[i] = m.getParameterTypes()[i] == long.class ? (Object) wide() : (Object) number(name, i);
        }
        return alike(name, args);
    }

    private long wide() {
        return random.nextInt(4) == 0 ? random.nextLong() : random.nextInt(700) - 50;
    }

    private int number(String name, int i) {
        int dice = random.nextInt(60);
        if (dice < 2) {
            return dice == 0 ? random.nextInt() : random.nextBoolean() ? Integer.MAX_VALUE : Integer.MIN_VALUE;
        }
        if (name.equals("cool") && i == 1 || name.equals("end")) {
            return upTo(602) - 1;
        }
        if (name.equals("rate") && i == 1) {
            return upTo(302) - 1;
        }
        if (name.equals("fires") && i == 1) {
            return upTo(202) - 1;
        }
        if (name.equals("luck") && i == 1) {
            return upTo(22);
        }
        if ((name.equals("luck") || name.equals("drawn")) && i == 0) {
            return random.nextInt(4) == 0 ? 2_000_000_000 - 3 + upTo(4) : random.nextInt();
        }
        if (name.equals("worth")) {
            return upTo(1 << zones) - (dice < 6 ? 1 : 0);
        }
        if (name.equals("row") && i == 2) {
            return dice < 40 ? 3 * upTo(20) : upTo(62) - 1;
        }
        if (name.equals("write") && i == 1 || name.equals("paste") && (i == 1 || i >= 3)) {
            return dice < 40 ? upTo(10) : upTo(62) - 1;
        }
        return dice < 4 ? -1 : random.nextInt(dice < 30 ? 4 : dice < 50 ? 8 : 16);
    }

    private boolean alike(String name, Object... args) throws ReflectiveOperationException {
        calls++;
        Method m = null;
        for (Method call : CALLS) {
            m = call.getName().equals(name) ? call : m;
        }
        long got = ((Number) m.invoke(real, args)).longValue();
        Method same = Oracle.class.getMethod(name, m.getParameterTypes());
        long want = ((Number) same.invoke(oracle, args)).longValue();
        told.append(name).append(java.util.Arrays.toString(args)).append(" = ").append(got);
        told.append(got == want ? "\n" : ", due is " + want + "\n");
        return got == want;
    }
}
