import com.sun.management.ThreadMXBean;
import java.lang.management.ManagementFactory;

/** All calls of a run live in one room: the dearest runs of 512 calls that can be thought of stay far below it. */
public final class RoomTest {
    private static final Check CHECK = new Check("RoomTest");
    /** The room has 7.3 million fields and elements; at 8 bytes each a run of one object may take a tenth of it. */
    private static final long MOST_BYTES = 7_300_000L * 8 / 10;

    private static DigHouse sequences() {
        DigHouse x = new DigHouse();
        for (int u = 0; u < 16; u++) {
            x.unit(0, 0);
        }
        for (int u = 1; u < 16; u++) {
            x.above(u, 0);
        }
        for (int i = 0; i < 160; i++) {
            x.above(1, 0);
            CHECK.due("orders()", x.orders(), 1307674368000L);
            x.first();
        }
        return x;
    }

    private static DigHouse copies() {
        DigHouse x = new DigHouse();
        for (int u = 0; u < 10; u++) {
            x.unit(4, 0);
            for (int i = 0; i < 6; i++) {
                x.tray(u, 40);
            }
        }
        x.sample(0, 0, 1, 2);
        x.coin(0, 1, 1, 2);
        for (int i = 0; i < 440; i++) {
            x.copy(i % 2, 0, 40, (i + 1) % 2, i % 3);
        }
        return x;
    }

    private static DigHouse notes() {
        DigHouse x = new DigHouse();
        x.unit(0, 0);
        x.tray(0, 40);
        x.note(0, 0, 0x4141414141414141L);
        for (int i = 0; i < 4; i++) {
            x.note(0, 0, 0x4141414141414141L);
        }
        for (int i = 0; i < 250; i++) {
            x.undo();
            x.note(0, 0, 0x4141414141414141L);
        }
        return x;
    }

    private static DigHouse questions() {
        DigHouse x = copies();
        for (int i = 0; i < 400; i++) {
            x.drawn(3, 0);
            x.quarrel();
            x.because(8);
            x.total(-5, -5);
            x.digest();
            x.orders();
            x.first();
        }
        return x;
    }

    public static void main(String[] args) {
        ThreadMXBean bean = (ThreadMXBean) ManagementFactory.getThreadMXBean();
        long me = Thread.currentThread().getId();
        for (int run = 0; run < 4; run++) {
            long before = bean.getThreadAllocatedBytes(me);
            DigHouse x = run == 0 ? copies() : run == 1 ? notes() : run == 2 ? questions() : sequences();
            long bytes = bean.getThreadAllocatedBytes(me) - before;
            CHECK.due("run " + run + " with " + x.count(4) + " acts took " + bytes + " bytes, which is little", bytes < MOST_BYTES ? 1 : 0, 1);
        }
        CHECK.end();
    }
}
