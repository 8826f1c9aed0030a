import java.lang.management.ManagementFactory;
import java.util.IdentityHashMap;
import java.lang.reflect.Array;
import java.lang.reflect.Field;
import java.lang.reflect.Modifier;

/** All rows are made with the object: an object is small, and no call makes anything that stays or goes. */
public final class RoomTest {
    private static final String FULL = "d421;c25;wp0,10,2003;wr2,12,2012;wh3,20,3101;wb5,9,1214;";

    private final Check check = new Check("RoomTest");

    public static void main(String[] args) throws IllegalAccessException {
        RoomTest test = new RoomTest();
        test.small();
        test.nothingMade();
        test.check.end();
    }

    private void small() throws IllegalAccessException {
        IdentityHashMap<Object, Integer> seen = new IdentityHashMap<>();
        count(new DoorIsHeld(), seen);
        int elements = 0;
        for (int size : seen.values()) {
            elements += size;
        }
        check.holds(seen.size() + " objects and arrays", seen.size() <= 60);
        check.holds(elements + " fields and elements", elements <= 800);
    }

    private void count(Object it, IdentityHashMap<Object, Integer> seen) throws IllegalAccessException {
        if (it == null || seen.containsKey(it)) {
            return;
        }
        if (it.getClass().isArray()) {
            seen.put(it, Array.getLength(it));
            return;
        }
        int fields = 0;
        seen.put(it, 0);
        for (Field field : it.getClass().getDeclaredFields()) {
            if (Modifier.isStatic(field.getModifiers())) {
                continue;
            }
            fields++;
            field.setAccessible(true);
            if (!field.getType().isPrimitive()) {
                count(field.get(it), seen);
            }
        }
        seen.put(it, fields);
    }

    private void nothingMade() {
        if (!(ManagementFactory.getThreadMXBean() instanceof com.sun.management.ThreadMXBean bean)) {
            return;
        }
        DoorIsHeld x = Check.doorOf(FULL);
        long sum = everyCall(x);
        long before = bean.getThreadAllocatedBytes(Thread.currentThread().getId());
        for (int round = 0; round < 200; round++) {
            sum += everyCall(x);
        }
        long made = bean.getThreadAllocatedBytes(Thread.currentThread().getId()) - before;
        // Some of it is the bean's own; a row in one call would be 200 times 16 at least.
        check.holds("made " + made + " bytes in 200 rounds (" + sum + ")", made < 3000);
    }

    private static long everyCall(DoorIsHeld x) {
        long sum = x.letter('d') + x.way() + x.letter(-1) + x.image() + x.set(0, 5) + x.custom(3);
        sum += x.letter('c') + x.letter('1') + x.letter('9') + x.letter(';') + x.way();
        for (int w = -1; w < 5; w++) {
            sum += x.walker(w, 7) + x.far(w, 0, 1) + x.there(w) + x.order(w) + x.comes(w) + x.through(w) + x.opens(w);
            sum += x.stands(w) + x.by(w) + x.runs(w) + x.loss(w) + x.alone(w) + x.count(w);
        }
        sum += x.holds() + x.longest() + x.away() + x.open() + x.coals() + x.byOther(2, 9) + x.bestFar();
        sum += x.bestCustom() + x.bestShuts() + x.worse() + x.followed() + x.porter();
        sum += x.film(3, 1, 0, 1) + x.told(9, 0, 1) + x.fitting(2, 0) + x.seeds(20, 7) + x.row(1) + x.judge();
        return sum + x.on();
    }
}
