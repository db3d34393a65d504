import java.lang.management.ManagementFactory;

/** All calls of a run live in one room: calls that do not throw make no object. */
public final class RoomTest {
    public static void main(String[] args) {
        run(new SquareCodes());
        long before = made();
        SquareCodes x = new SquareCodes();
        long forTheObject = made() - before;
        Due.holds("a new object takes at most 16000 bytes, not " + forTheObject, forTheObject <= 16_000);
        before = made();
        run(x);
        long forTheCalls = made() - before;
        Due.holds("500 calls take at most 4000 bytes, not " + forTheCalls, forTheCalls <= 4_000);
        Due.end();
    }

    private static long made() {
        com.sun.management.ThreadMXBean threads =
            (com.sun.management.ThreadMXBean) ManagementFactory.getThreadMXBean();
        return threads.getThreadAllocatedBytes(Thread.currentThread().getId());
    }

    private static void run(SquareCodes x) {
        int sum = 0;
        for (int i = 0; i < 50; i++) {
            x.type((char) (32 + i));
            sum += x.write(i % 4, -1);
            sum += x.flip(10, 10) + x.flip(12, 12) + x.flip(18, 18);
            sum += x.read() + x.text(0) + x.told(2) + x.taken(3) + x.ugliness();
        }
        Due.holds("the run has answers", sum != 0);
    }
}
