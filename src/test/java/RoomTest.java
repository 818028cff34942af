import com.sun.management.ThreadMXBean;
import java.lang.management.ManagementFactory;

/** All calls of a run live in one room: no call may make objects, beside the exceptions and the first marks. */
public final class RoomTest {
    private static final ThreadMXBean THREADS = (ThreadMXBean) ManagementFactory.getThreadMXBean();

    public static void main(String[] args) {
        RoverPlanner p = new RoverPlanner();
        long ahead = bytes();
        new RoverPlanner();
        long made = bytes() - ahead;
        Due.is("an object takes at most 50,000 bytes: " + made, true, made < 50_000);
        for (int i = 0; i < 12; i++) {
            p.addTarget(2 * i, 23 - i, 10 + i, 1 + i % 4);
        }
        p.addPass(0, 1440, 7);
        p.setRover(20000, 5000);
        for (int i = 0; i < 8; i++) {
            p.mark();
        }
        work(p);
        ahead = bytes();
        long digest = work(p);
        long used = bytes() - ahead;
        Due.is("calls make no objects: " + used, true, used < 2_000);
        Due.is("and answer the same again", digest, work(p));
        manyPieces();
        Due.end("RoomTest");
    }

    private static long bytes() {
        return THREADS.getThreadAllocatedBytes(Thread.currentThread().getId());
    }

    private static long work(RoverPlanner p) {
        p.back(0);
        p.raise(5, 9, 5, 9, 3);
        p.raise(5, 9, 5, 9, -3);
        p.pave(3, 4, 3, 4, 1, true);
        long sum = p.setSlope(12) + p.way(0, 0, 23, 23, 1) + p.way(0, 0, 20, 3, 2) + (p.sees(0, 0, 9, 9) ? 1 : 0);
        p.put(0, 6, 1, 0);
        sum = sum * 31 + p.make(2880);
        sum = sum * 31 + p.check() + p.reason() + p.foretell(3, 7) + p.nearest(4);
        sum = sum * 31 + p.move(0, 3) + p.remove(3);
        for (int i = 0; i < 10; i++) {
            sum = sum * 31 + p.run(5);
            p.put(0, 3, 9, 0);
        }
        for (int i = 1; i < 8; i++) {
            p.mark();
        }
        p.back(7);
        p.put(0, 5, 0, 0);
        p.put(1, 7, 0, 0);
        sum = sum * 31 + p.run(40);
        return sum * 31 + p.digest();
    }

    /** As many pieces as can be: of each priority one unit of a piece, and as many whole ones as there is room for. */
    private static void manyPieces() {
        RoverPlanner p = new RoverPlanner();
        p.addTarget(0, 0, 1, 1);
        p.setRover(20000, 5000);
        p.addPass(0, 1440, 13);
        p.put(0, 5, 720, 0);
        for (int priority = 1; priority <= 9; priority++) {
            p.put(2 * priority - 1, 1, 0, priority);
            p.put(2 * priority, 3, 3, 0);
        }
        Due.is("nine rests", 19, p.run(40));
        Due.is("of one unit", 9, left(p));
        for (int part = 0; part < 4; part++) {
            for (int i = 0; i < 31; i++) {
                p.put(i, 1, 0, 1 + (31 * part + i) % 9);
            }
            Due.is("images", 31, p.run(40));
        }
        Due.is("pieces", 133, p.rover(8));
        Due.is("units", 4969, p.rover(7));
        p.put(0, 1, 0, 1);
        Due.is("no room", 4, p.reason());
        p.put(0, 3, 3, 0);
        Due.is("room", 0, p.reason());
        p.run(40);
        Due.is("the rest of the greatest priority is sent", 1, p.piece(8, 2));
        Due.is("and of the next piece of this priority", 2, p.piece(16, 1));
        Due.is("units then", 4969 - 39 + 40, left(p));
    }

    private static int left(RoverPlanner p) {
        int sum = 0;
        int pieces = p.rover(8);
        for (int i = 0; i < pieces; i++) {
            sum += p.piece(i, 1);
        }
        return sum;
    }
}
