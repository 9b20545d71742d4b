import java.lang.management.ManagementFactory;

/** All calls of a run share one small room: after the constructor no call makes an object. */
public final class RoomTest {
    private static final int ROUNDS = 30;

    public static void main(String[] args) {
        com.sun.management.ThreadMXBean bean =
            (com.sun.management.ThreadMXBean) ManagementFactory.getThreadMXBean();
        long thread = Thread.currentThread().getId();
        CostFormulas x = new CostFormulas();
        round(x);
        bean.getThreadAllocatedBytes(thread);
        long before = bean.getThreadAllocatedBytes(thread);
        for (int n = 0; n < ROUNDS; n++) {
            round(x);
        }
        long taken = bean.getThreadAllocatedBytes(thread) - before;
        long made = bean.getThreadAllocatedBytes(thread);
        CostFormulas y = new CostFormulas();
        made = bean.getThreadAllocatedBytes(thread) - made + y.told(0);
        Check check = new Check();
        // The question itself may take some bytes.
        check.due("calls take less than 2000 bytes (" + taken + ")", taken < 2000 ? 1 : 0, 1);
        check.due("an object takes less than 200000 bytes (" + made + ")", made < 200000 ? 1 : 0, 1);
        check.end();
    }

    private static void round(CostFormulas x) {
        x.feed(0x666F7220, 0x693D312E, 0x2E617B77, 0x20693B7D);
        x.cut(16);
        x.read();
        x.feed(0x72756E20, 0x3028612C, 0x61293B77, 0x20623B20);
        x.read();
        x.feed(0x666F7220, 0x693D312E, 0x2E617B77, 0x20693B20);
        x.read();
        for (int n = 0; n < 2; n++) {
            x.judge(n, 0, 0);
            x.count(n, 0, 30, 4);
            x.degree(n);
            x.shown(n, 2);
            x.factor(n, 0, 1, 0);
            x.steps(n, -1, 100, 100);
            x.grows(n);
            x.compare(n, 1 - n);
            x.overtakes(n, 1 - n, 3);
            x.price(n, 5 + n);
            x.told(n);
        }
        x.drop();
        x.drop();
    }
}
