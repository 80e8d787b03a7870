import com.sun.management.ThreadMXBean;
import java.lang.management.ManagementFactory;

/** Objects share one room that is never swept: a new one is small, and its calls make nothing. */
public final class RoomTest {
    private static final int OBJECTS = 200;
    private static final long MOST_BYTES_OF_ONE = 20_000;
    private static final long MOST_BYTES_OF_CALLS = 20_000;

    public static void main(String[] args) {
        ThreadMXBean bean = (ThreadMXBean) ManagementFactory.getThreadMXBean();
        Check check = new Check();
        CryptBays[] all = new CryptBays[OBJECTS];
        all[0] = new CryptBays();
        // Once ahead of measuring, so that what the machine itself loads does not count.
        allCalls(all[0]);
        bean.getCurrentThreadAllocatedBytes();
        long start = bean.getCurrentThreadAllocatedBytes();
        for (int i = 0; i < OBJECTS; i++) {
            all[i] = new CryptBays();
        }
        long made = bean.getCurrentThreadAllocatedBytes();
        for (int i = 0; i < OBJECTS; i++) {
            allCalls(all[i]);
        }
        long used = bean.getCurrentThreadAllocatedBytes();
        check.part("room");
        check.due("bytes of an object: " + (made - start) / OBJECTS, (made - start) / OBJECTS < MOST_BYTES_OF_ONE ? 1 : 0, 1);
        check.due("bytes of all calls: " + (used - made), used - made < MOST_BYTES_OF_CALLS ? 1 : 0, 1);
        check.done();
    }

    private static void allCalls(CryptBays x) {
        for (int h = 0; h < 7; h++) {
            x.holder(h % 5, 9 * h, 5 - h % 6);
        }
        x.rule(0, 0, 5);
        x.of(0, 5);
        x.at(0, 2);
        x.count(5);
        x.image();
        x.days(3);
        x.drift(9);
        x.change(0, 1);
        x.talk(0);
        x.undo();
        x.seed(5);
        x.ahead(0, 99);
        x.then(99, 1);
        x.takes(0);
        x.cough(1);
        x.content(0);
        x.swaps(2);
        x.latest(0, 40, 0);
        x.earn(40, 0);
        x.dark(0, 40);
        x.spare(0, 40);
        x.coughs(0, 50, 6, 5, 0);
        for (int s = 0; s < 4; s++) {
            x.sheet(s, s, 24);
            x.film(0, 24, s, s, 0);
            x.looks(0, s, s, 0, 8, 1);
            x.item(s, s, 0, -1);
            x.copy(s, 0, s, 1, 23);
        }
        x.drop(0);
        x.restore();
        x.move(0, 0);
        for (int i = 0; i < 6; i++) {
            x.type('3');
        }
        x.type(';');
        x.type('p');
        x.crypt();
    }
}
