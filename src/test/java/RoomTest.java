import java.lang.management.ManagementFactory;

/** All calls of a run live in one room: an object takes little of it, and its calls take none. */
public final class RoomTest {
    private static final com.sun.management.ThreadMXBean THREADS =
        (com.sun.management.ThreadMXBean) ManagementFactory.getThreadMXBean();

    public static void main(String[] args) {
        Check c = new Check();
        MarketSpring x = Check.town("t100305!;t070006;t090812;t201803;h2;g40072133;g50181244");
        everyCall(x);
        bytesNow();
        long before = bytesNow();
        MarketSpring fresh = new MarketSpring();
        long made = bytesNow() - before;
        c.holds("a new object takes 16,000 bytes at most: " + made, made <= 16000 && fresh.count(0) == 0);
        before = bytesNow();
        for (int n = 0; n < 10; n++) {
            everyCall(x);
        }
        long taken = bytesNow() - before;
        c.holds("calls make nothing: " + taken + " bytes", taken <= 2000);
        c.end();
    }

    private static long bytesNow() {
        return THREADS.getThreadAllocatedBytes(Thread.currentThread().getId());
    }

    private static void everyCall(MarketSpring x) {
        x.wipe();
        for (int n = 0; n < 8; n++) {
            x.type('t');
        }
        x.wipe();
        typeTown(x);
        x.set(2, 70 + x.count(4));
        x.shut(5, 1);
        x.shift(1, 3);
        for (int s = 0; s < 4; s++) {
            x.sheet(s, s % 3, 48);
            x.write(7 * s, s);
            x.put(s, s % 3, 3, 300);
            x.get(s, s % 3, 3);
        }
        x.copy(0, 0, 3, 5, 9);
        x.copy(0, 0, 1, 5, 9);
        x.read(0);
        x.seen(30, 12);
        x.seen(31, 12);
        x.thief(0);
        x.best(-1);
        x.digest();
        x.wound(7);
        x.stands(0, 3);
        x.group(0, 1);
        x.handle(2);
        x.forget();
        x.lose(0);
    }

    /** As bytes, so that the test itself makes nothing. */
    private static void typeTown(MarketSpring x) {
        for (int i = 0; i < TOWN.length; i++) {
            x.type(TOWN[i]);
        }
    }

    private static final byte[] TOWN = "t100305!;t070006;t090812;t201803;h2;g40072133;g50181244".getBytes();
}
