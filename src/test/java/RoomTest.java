import com.sun.management.ThreadMXBean;
import java.lang.management.ManagementFactory;

/** No call makes an object: all rows are made with the object itself, and those are small. */
public final class RoomTest {
    private static final ThreadMXBean THREADS = (ThreadMXBean) ManagementFactory.getThreadMXBean();
    private static final int ROUNDS = 512, OBJECTS = 1000;
    private static final String ITEMS = "tent 8;wet 1;";

    public static void main(String[] args) {
        TentPegs x = new TentPegs();
        callAll(x, 0);
        long before = allocated();
        for (int round = 0; round < ROUNDS; round++) {
            callAll(x, round);
        }
        Due.holds("calls make nothing", allocated() - before < 4096);
        before = allocated();
        for (int i = 0; i < OBJECTS; i++) {
            x = new TentPegs();
        }
        Due.holds("an object takes some 7000 bytes at most", (allocated() - before) / OBJECTS < 7000);
        Due.due("count(0)", x.count(0), 8);
        Due.end("RoomTest");
    }

    private static long allocated() {
        return THREADS.getThreadAllocatedBytes(Thread.currentThread().getId());
    }

    private static void callAll(TentPegs x, int round) {
        x.clear();
        for (int i = 0; i < ITEMS.length(); i++) {
            x.type(ITEMS.charAt(i));
        }
        x.read();
        x.tent(8);
        x.peg(round % 8, 5, 5, 5);
        x.wet(3);
        x.wall(3, true);
        x.odds(2, round % 20);
        x.gust(round % 8, 3);
        x.stand(3, false);
        x.undo();
        x.of(1, 3);
        x.pull(1, 2, 3);
        x.first(0, 40, -1);
        x.lost(1, 2, 30);
        x.bears(-1);
        x.twofold(2, 1);
        x.strokes(1, 25, 1);
        x.chance(20);
        x.turn(20);
        x.worth(2, 20);
        x.setUp(2, 0, 18, 3);
        x.morning(1, 1);
        x.lent(2, 30, 2);
        x.pence(2, 30, 2);
        x.night(10, 30, round, 1);
        x.wake(10, 30, round);
        x.part(0);
        x.image(0);
        x.from(0);
        x.status(9);
        x.count(1);
        x.digest();
    }
}
