import com.sun.management.ThreadMXBean;
import java.lang.management.ManagementFactory;

/** A run lives in one room: a new object is small, and its calls make nothing more. */
public final class RoomTest {
    private static final Script SCRIPT = new Script();
    private static final ThreadMXBean THREADS = (ThreadMXBean) ManagementFactory.getThreadMXBean();
    private static final long A_NEW_OBJECT = 12000;

    private static long sum = 0;

    private RoomTest() {
    }

    public static void main(String[] args) {
        use(new OddShoes());
        long before = THREADS.getCurrentThreadAllocatedBytes();
        OddShoes shoes = new OddShoes();
        long made = THREADS.getCurrentThreadAllocatedBytes();
        use(shoes);
        long used = THREADS.getCurrentThreadAllocatedBytes();
        System.out.println("a new object: " + (made - before) + " bytes; its calls: " + (used - made) + "; " + sum);
        SCRIPT.expect("a new object takes " + (made - before) + " bytes", made - before < A_NEW_OBJECT);
        SCRIPT.expect("calls make " + (used - made) + " bytes", used - made < 500);
        SCRIPT.end();
    }

    private static void use(OddShoes x) {
        sum += x.towns(6);
        for (int t = 0; t < 6; t++) {
            sum += x.shop(t, 1 + t % 2, t) + x.stock(t, 2, 9);
            for (int o = 0; o < t; o++) {
                sum += x.road(t, o, t, 0);
            }
        }
        for (int p = 0; p < 4; p++) {
            sum += x.person(p, p, 2, 2, 90);
        }
        sum += x.set(0, 2) + x.set(1, 2) + x.seen(0, 1) + x.image(0);
        for (int i = 0; i < 27; i++) {
            sum += x.say('A') + x.say(i % 2 == 0 ? 'b' : 'a');
        }
        for (int i = 0; i < 3; i++) {
            sum += x.say('?') + x.say('-') + x.filled(-1) + x.filled(i);
        }
        sum += x.fault() + x.judge(0) + x.wipe() + x.say('A') + x.say('+') + x.judge(1);
        sum += x.behind(0, 3) + x.givesOut(5, 0) + x.done() + x.state(0, 2) + x.trodden(0, 1, 0);
        sum += x.far(0, 5, 0) + x.way(0, 5, 1) + x.shod(0, 0) + x.round(0, 63, 0);
        sum += x.together(15, 4, 5, 0) + x.parted(0, 5, 1) + x.pairs(0, 1, 2, 0) + x.rests(-1);
        sum += x.owner(0) + x.track(6, 6, 2) + x.spy(0) + x.shut(0, 3, 0) + x.year(7, 99, 0);
        sum += x.restore(0) + x.forget() + x.told(111) + x.leave(0);
    }
}
