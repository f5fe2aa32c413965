import java.lang.reflect.InvocationTargetException;
import java.lang.reflect.Method;
import java.lang.reflect.Modifier;
import java.util.Arrays;
import java.util.Comparator;

/** No call makes an object, and no call throws, whatever its arguments are. */
public final class RoomTest {
    private static final Check CHECK = new Check("RoomTest");
    private static final int[] WILD = {Integer.MIN_VALUE, Integer.MIN_VALUE + 1, -1000000, -100, -7, -2, -1, 0, 1, 2, 3, 4,
        5, 6, 7, 8, 9, 10, 20, 40, 46, 54, 60, 65, 70, 99, 100, 108, 999999, 1000000, 2147483, Integer.MAX_VALUE - 1,
        Integer.MAX_VALUE};

    public static void main(String[] args) throws Exception {
        wildCalls();
        noObjects();
        CHECK.end();
    }

    private static void wildCalls() throws Exception {
        CHECK.part("wild calls");
        Draws draws = new Draws(3);
        Method[] methods = BelowWorth.class.getDeclaredMethods();
        // The machine may tell them in any order; the draws are to be the same in each run.
        Arrays.sort(methods, Comparator.comparing(Method::toString));
        for (int time = 0; time < 400; time++) {
            BelowWorth x = new BelowWorth();
            for (int call = 0; call < 512; call++) {
                Method method = methods[draws.below(methods.length)];
                if (Modifier.isPublic(method.getModifiers())) {
                    CHECK.holds(method.getName() + " throws nothing", answers(x, method, draws));
                }
            }
        }
    }

    private static boolean answers(BelowWorth x, Method method, Draws draws) throws Exception {
        Class<?>[] types = method.getParameterTypes();
        Object[] arguments = new Object[types.length];
        for (int i = 0; i < types.length; i++) {
            arguments[i] = types[i] == boolean.class ? (Object) draws.oneOf(2) : (Object) WILD[draws.below(WILD.length)];
        }
        try {
            method.invoke(x, arguments);
            return true;
        } catch (InvocationTargetException thrown) {
            return false;
        }
    }

    /** What the thread has been given, before and behind all calls many times over. */
    private static void noObjects() {
        CHECK.part("room");
        com.sun.management.ThreadMXBean beans =
                (com.sun.management.ThreadMXBean) java.lang.management.ManagementFactory.getThreadMXBean();
        long self = Thread.currentThread().getId();
        BelowWorth[] made = new BelowWorth[200];
        for (int time = 0; time < made.length; time++) {
            made[time] = new BelowWorth();
            allCalls(made[time]);
        }
        long before = beans.getThreadAllocatedBytes(self);
        for (int time = 0; time < made.length; time++) {
            allCalls(made[time]);
        }
        long given = beans.getThreadAllocatedBytes(self) - before;
        // Asking for the number takes some room itself.
        CHECK.holds("no object is made by all calls to 200 objects: " + given + " bytes", given < 2000);
    }

    private static void allCalls(BelowWorth x) {
        x.ship(0, 40, 9, 5);
        x.ship(4, 1, 99, 20);
        x.insure(0, 1, 50);
        x.load(0, 7);
        x.set(0, 99);
        String text = "Ai0Al3As.Al9Ax";
        for (int i = 0; i < text.length(); i++) {
            x.say(text.charAt(i));
        }
        x.fault();
        x.judge(0);
        x.behind(0, 3);
        x.total(0);
        x.sunk(1);
        x.mean(0, 4, 0);
        x.deep(0);
        x.share(0, 3);
        x.losses(1, 0);
        x.losses(-1, 0);
        x.fleet(123456, 654321, 9, 1);
        x.holds(532110, 1);
        x.meant(25, 75, 6, 3, 0);
        for (int name = 0; name < 7; name++) {
            x.tale(name, name + 1, false);
        }
        x.broken(0);
        x.ones();
        x.berth(13, 4, 1);
        x.image(0);
        x.done();
        x.year(5, 90, 0);
        x.restore(0);
        x.forget();
        x.wipe();
        x.told(15);
        x.sell(4);
    }
}
