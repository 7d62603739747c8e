import com.sun.management.ThreadMXBean;
import java.lang.management.ManagementFactory;

/** Calls make no objects at all, and a new object is small: all calls of a run live in one room. */
public final class RoomTest {
    private static final int OBJECTS = 400, ROWS = 6, OBJECT_MOST = 16000, SPARE = 100000;
    private static int sum;

    public static void main(String[] args) {
        Check check = new Check();
        ThreadMXBean bean = (ThreadMXBean) ManagementFactory.getThreadMXBean();
        MixedRules[] kept = new MixedRules[OBJECTS];
        callAll(told(new MixedRules()), 1);
        long before = bean.getCurrentThreadAllocatedBytes();
        for (int i = 0; i < OBJECTS; i++) {
            kept[i] = new MixedRules();
        }
        long each = (bean.getCurrentThreadAllocatedBytes() - before) / OBJECTS;
        check.due("a new object is small, it took " + each, each > 0 && each <= OBJECT_MOST ? 1 : 0, 1);
        before = bean.getCurrentThreadAllocatedBytes();
        for (MixedRules x : kept) {
            callAll(told(x), ROWS);
        }
        long more = bean.getCurrentThreadAllocatedBytes() - before;
        check.due("calls make no objects, they took " + more, more <= SPARE ? 1 : 0, 1);
        check.end();
    }

    private static MixedRules told(MixedRules x) {
        tell(x, "net 4;flow 0 0 3 2;old 0 0 1;old 0 1 2;old 0 2 3;new 0 0 2;new 0 2 1;new 0 1 3");
        tell(x, "link 0 1 5;link 1 2 5;link 2 3 5;link 0 2 5;link 2 1 5;link 1 3 5");
        return x;
    }

    private static void tell(MixedRules x, String text) {
        for (int i = 0; i < text.length(); i++) {
            sum += x.write(text.charAt(i));
        }
        sum += x.rules();
    }

    private static void callAll(MixedRules x, int times) {
        for (int i = 0; i < times; i++) {
            sum += x.write('n') + x.write('e') + x.write('t') + x.write('4') + x.fault() + x.erase();
            sum += x.write('l') + x.fault() + x.rules() + x.erase();
            sum += x.advance(0) + x.send(0) + x.tick() + x.turn(0, 4) + x.reverse(0) + x.reverse(0) + x.force(0, 2);
            sum += x.reverse(0) + x.tick() + x.tick() + x.ready(0) + x.flip(0) + x.send(0) + x.tick() + x.cancel(0);
            sum += x.sound(0, 3) + x.walk(0, 3, 1) + x.safe(0, 7, 2) + x.plan(0, 1) + x.rounds(0) + x.order(1) + x.waits(0, 1);
            sum += x.letter(0, 1) + x.count(10) + x.load(0, 1) + x.room(0, 1) + x.table(0) + x.flow(0, 4) + x.rule(0, 0, 2);
            sum += x.tick() + x.tick() + x.tick() + x.cancel(0);
        }
    }
}
