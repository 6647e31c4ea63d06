import com.sun.management.ThreadMXBean;
import java.lang.management.ManagementFactory;

/**
 * What a run of the dearest calls makes in all: nothing is ever given back, so it must stay far below the
 * room of 7.3 million fields and elements (some 4 bytes each, the most of them).
 */
public final class RoomTest {
    private static final long MOST_BYTES = 4_000_000;

    public static void main(String[] args) {
        ThreadMXBean threads = (ThreadMXBean) ManagementFactory.getThreadMXBean();
        long self = Thread.currentThread().getId();
        run();
        long ahead = threads.getThreadAllocatedBytes(self);
        run();
        long made = threads.getThreadAllocatedBytes(self) - ahead;
        System.out.println("RoomTest: a run of 512 calls makes " + made + " bytes");
        if (made > MOST_BYTES) {
            System.exit(1);
        }
    }

    /** 3000 pieces of one sign, then edits till each leaf that is kept has held so many. */
    private static void run() {
        PieceBook x = new PieceBook();
        int calls = 0;
        for (int i = 0; i < 20; i++, calls++) {
            x.type(0, 'a' + i);
        }
        for (int n = 20; n <= 1280; n *= 2, calls++) {
            x.lays(0, n, 0);
        }
        x.lays(0, 440, 0);
        calls++;
        if (x.count(2) != 3000) {
            System.out.println("RoomTest: " + x.count(2) + " pieces");
            System.exit(1);
        }
        for (int i = 0; i < 3; i++, calls++) {
            x.keep(i);
        }
        while (calls < 512) {
            x.moves(0, 1500, 3000);
            x.years(calls, 40);
            x.before(1500);
            x.differs(1);
            x.lost(1);
            calls += 5;
        }
    }
}
