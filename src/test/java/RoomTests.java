import java.lang.management.ManagementFactory;
import java.lang.reflect.InvocationTargetException;
import java.lang.reflect.Method;
import java.lang.reflect.Modifier;

/** Calls with all kinds of numbers end without the machine throwing; the dearest ones make no objects. */
public final class RoomTests {
    private static final int[] NUMBERS = {Integer.MIN_VALUE, -1, 0, 1, 2, 5, 6, 14, 15, 60, 600, Integer.MAX_VALUE};

    private static final String FULL = "lehr steps 14 law 2 odds 5 pace 2 set 300;"
            + "zone 600; zone 500; zone 400; zone 300; zone 200; zone 100; zone 0;"
            + "piece heat 600 thick 9 bears 10 at 0; piece heat 0 thick 1 bears 0 at 0;"
            + "piece heat 500 thick 5 bears 60 at 1; piece heat 400 thick 4 bears 50 at 2;"
            + "piece heat 300 thick 3 bears 300 at 3; piece heat 200 thick 2 bears 20 at 14;";

    private RoomTests() { }

    public static void main(String[] args) throws ReflectiveOperationException {
        everyNumber(new LehrBelt());
        everyNumber(Checks.told("lehr steps 1 law 0 odds 0 pace 1 set 0;"));
        LehrBelt full = Checks.told(FULL);
        Checks.write(full, 0, 0, 14, 100, 2, 7, 100);
        full.fires(1, 200, 0);
        full.gusts(3);
        full.image(0);
        everyNumber(full);
        room();
        Checks.close("RoomTests");
    }

    private static void everyNumber(LehrBelt x) throws ReflectiveOperationException {
        for (Method m : LehrBelt.class.getDeclaredMethods()) {
            if (Modifier.isPublic(m.getModifiers())) {
                Class<?>[] types = m.getParameterTypes();
                Object[] with = new Object[types.length];
                int many = (int) Math.pow(NUMBERS.length, Math.min(types.length, 4));
                for (int k = 0; k < many; k++) {
                    int rest = k;
                    for (int i = 0; i < types.length; i++) {
                        int n = NUMBERS[rest % NUMBERS.length];
                        with[i] = types[i] == long.class ? (Object) (long) n : (Object) n;
                        rest = i < 3 ? rest / NUMBERS.length : rest;
                    }
                    ends(x, m, with);
                }
            }
        }
    }

    private static void ends(LehrBelt x, Method m, Object[] with) throws IllegalAccessException {
        try {
            m.invoke(x, with);
        } catch (InvocationTargetException e) {
            Checks.holds(m.getName() + java.util.Arrays.toString(with) + " threw " + e.getCause(), false);
        }
    }

    private static void room() {
        LehrBelt x = Checks.told(FULL);
        Checks.write(x, 0, 0, 14, 100, 2, 7, 100);
        dear(x);
        com.sun.management.ThreadMXBean threads = (com.sun.management.ThreadMXBean) ManagementFactory.getThreadMXBean();
        long before = threads.getThreadAllocatedBytes(Thread.currentThread().getId());
        for (int i = 0; i < 15; i++) {
            dear(x);
        }
        long made = threads.getThreadAllocatedBytes(Thread.currentThread().getId()) - before;
        Checks.holds("room of 15 times the dearest calls: " + made + " bytes", made < 2_000);
        before = threads.getThreadAllocatedBytes(Thread.currentThread().getId());
        LehrBelt y = new LehrBelt();
        made = threads.getThreadAllocatedBytes(Thread.currentThread().getId()) - before;
        Checks.holds("room of a new object: " + made + " bytes", made < 40_000 && y.count(0) == 0);
    }

    private static void dear(LehrBelt x) {
        x.rescue(0);
        x.raise(6, 0);
        x.airs(0, 3);
        x.low(0, 3);
        x.high(0, 3);
        x.thicks(0, 2);
        x.laws(0);
        x.share(3, 0);
        x.rests(0, 1);
        x.chance(0, 8, 0);
        x.mean(8, 0);
        x.swap();
        x.skip();
        x.pace();
        x.paced();
        x.law();
        x.luck(5, 20, 1);
        x.drawn(7, 1);
        x.fires(0, 3, 2);
        x.gusts(1);
        x.undo();
        x.image(1);
        x.back(1);
        x.anew();
        x.end(0);
        x.row(3, 3, 60);
        x.paste(3, 0, 3, 30, 30);
        x.spare(4);
        x.thin(4);
    }
}
