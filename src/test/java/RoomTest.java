import com.sun.management.ThreadMXBean;
import java.lang.management.ManagementFactory;

/** All rows are made with the object: 512 of the dearest calls make next to nothing. */
public final class RoomTest {
    private static final int CALLS = 512;
    private static final long MOST_BYTES = 16384;
    private static final ThreadMXBean threads = (ThreadMXBean) ManagementFactory.getThreadMXBean();

    public static void main(String[] args) {
        Check check = new Check();
        useAll(furnished(), 2);
        MountainFile x = furnished();
        long before = threads.getCurrentThreadAllocatedBytes();
        useAll(x, CALLS / 32);
        long made = threads.getCurrentThreadAllocatedBytes() - before;
        check.holds("512 calls made " + made + " bytes", made <= MOST_BYTES);
        long beforeObject = threads.getCurrentThreadAllocatedBytes();
        furnished();
        long object = threads.getCurrentThreadAllocatedBytes() - beforeObject;
        check.holds("an object takes " + object + " bytes", object <= 2 * MOST_BYTES);
        check.end();
    }

    private static MountainFile furnished() {
        MountainFile x = new MountainFile();
        for (int r = 0; r < 8; r++) {
            x.range(r % 6, 3 * r);
        }
        for (int v = 0; v < 6; v++) {
            x.village(4 * v);
        }
        x.pass(5, 9, 1);
        x.pass(11, 7, 3);
        x.sheet(0, 8, 40);
        x.sheet(1, 8, 40);
        return x;
    }

    /** Thirty-two calls a round, those among them that look far ahead. */
    private static void useAll(MountainFile x, int rounds) {
        for (int i = 0; i < rounds; i++) {
            x.seasons(80);
            x.now(5);
            x.on(0, 80, 1);
            x.when(1, 1);
            x.lit(0);
            x.sun(1, 80);
            x.stands();
            x.ahead(0);
            x.file(0);
            x.frees();
            x.haste(0, 999, 40);
            x.best(0, 40);
            x.start(0, 40);
            x.kind(0, 40);
            x.swap(40);
            x.journey(0, 23);
            x.sets(0, 23);
            x.feed('f' << 24 | 'r' << 16 | 'e' << 8 | 'e', 4);
            x.feed(' ' << 8 | '5', 2);
            x.land();
            x.feed('?', 1);
            x.land();
            x.book(0, 0);
            x.read(0, 0);
            x.copy(0, 0, 1, 0, 40);
            x.write(0, 3, 5);
            x.lays(0);
            x.image();
            x.undo();
            x.of(3, 7);
            x.status(-1);
            x.cell(99, 0);
        }
    }
}
