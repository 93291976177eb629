import java.lang.management.ManagementFactory;

/** All calls live in one room: only the constructor makes objects, and few. */
public final class RoomTest {
    private static long sum = 0;

    public static void main(String[] args) {
        com.sun.management.ThreadMXBean bean = (com.sun.management.ThreadMXBean) ManagementFactory.getThreadMXBean();
        long self = Thread.currentThread().getId();
        PowerShares x = new PowerShares();
        for (int round = 0; round < 200; round++) {
            allCalls(x, round);
        }
        long before = bean.getThreadAllocatedBytes(self);
        for (int round = 0; round < 1000; round++) {
            allCalls(x, round);
        }
        long byCalls = bean.getThreadAllocatedBytes(self) - before;
        before = bean.getThreadAllocatedBytes(self);
        for (int made = 0; made < 1000; made++) {
            sum += new PowerShares().info(0, 0);
        }
        long byMaking = bean.getThreadAllocatedBytes(self) - before;
        // a single object a round would be 16,000 bytes at least
        boolean fits = byCalls < 12_000 && byMaking < 1000 * 4_000L;
        System.out.println("room: " + (fits ? "as due" : "too much is made") + ", 1,000 rounds of all calls made " + byCalls
                + " bytes, 1,000 objects " + byMaking);
        if (!fits) {
            System.exit(1);
        }
    }

    private static void allCalls(PowerShares x, int round) {
        sum += x.senders(5) + x.gain(0, round % 5, 1 + round % 9) + x.set(1, 0, 1 + round % 20) + x.on(round % 5);
        sum += x.power(2, round % 1000) + x.rule(round % 3) + x.type(97 + round % 5) + (round % 7 == 0 ? x.wipe() : 0);
        sum += x.fault() + x.read(0) + x.info(1, 5) + x.heard(1, 2) + x.minor(31) + x.feasible() + x.least(1, 1);
        sum += x.witness() + x.out() + x.admitted() + x.softer() + x.margin() + x.share(1, 0) + x.step(1) + x.turn();
        sum += x.order() + x.still() + x.rest(1) + x.met() + x.sheet(round % 4, round % 3, round % 61) + x.put(0, 0, 0, 7);
        sum += x.get(0, 0, 0) + x.copy(0, 0, 1, 0, 1) + x.write(0) + x.lose(round % 4) + x.count(7) + x.digest();
        sum += x.digest() + x.count(4) + x.count(5);
    }
}
