import java.lang.management.ManagementFactory;

/** The dearest runs of 512 calls stay far below the room that all calls of a run share. */
public final class RoomTest {
    private static final int NONE = NumberKeeper.NONE;
    // The room has 7.3 million fields and elements; a tenth of that in bytes is plenty.
    private static final long MOST_BYTES = 730_000;

    public static void main(String[] args) {
        com.sun.management.ThreadMXBean threads =
                (com.sun.management.ThreadMXBean) ManagementFactory.getThreadMXBean();
        // The first run loads classes, which is not what is measured.
        int sum = dearRun();
        long before = threads.getCurrentThreadAllocatedBytes();
        sum += dearRun();
        long bytes = threads.getCurrentThreadAllocatedBytes() - before;
        System.out.println("RoomTest: " + bytes + " bytes made in 512 calls (sum " + sum + ")");
        if (bytes > MOST_BYTES) {
            System.out.println("RoomTest: more than " + MOST_BYTES);
            System.exit(1);
        }
    }

    /** All rows full: 120 things with long numbers, 8 editions, 100 ranges, 200 changes, and the rest read. */
    private static int dearRun() {
        NumberKeeper k = new NumberKeeper();
        int sum = k.feed(0x41424344, 0x45464748, 0x494a4b4c, 0, 0);
        k.end(10);
        k.word(0);
        k.form(0, 0, 3, 2);
        int on = NONE;
        for (int x = 0; x < 9; x++) {
            on = k.add(0, on, 0);
        }
        for (int x = 9; x < 120; x++) {
            k.add(0, on, x - 9);
        }
        for (int e = 0; e < 8; e++) {
            sum += k.edition();
        }
        for (int m = 0; m < 100; m++) {
            sum += k.range(0, 0, m, m + 11);
        }
        for (int n = 0; n < 80; n++) {
            sum += k.move(60 + n % 2, on, n);
        }
        for (int n = 0; n < 95; n++) {
            sum += k.trouble() + k.text(n, 300);
        }
        return sum;
    }
}
