import java.lang.management.ManagementFactory;

/** All calls of a run live in one room: an object is small, and its calls make nothing. */
public final class RoomTest {
    private static final Checks checks = new Checks("RoomTest");
    private static final com.sun.management.ThreadMXBean THREADS =
        (com.sun.management.ThreadMXBean) ManagementFactory.getThreadMXBean();
    private static final byte[] TEXT = "f12,x34,t56,f71,n2,f05,x60,t17".getBytes();

    public static void main(String[] args) {
        useAll(new FlowFold());
        long start = made();
        FlowFold x = new FlowFold();
        long object = made() - start;
        System.out.println("RoomTest: a new object takes " + object + " bytes");
        checks.due("a new object is small", object < 6000 ? 1 : 0, 1);
        long before = made();
        int calls = useAll(x);
        long all = made() - before;
        System.out.println("RoomTest: " + calls + " calls make " + all + " bytes");
        // The machine's own measuring may make a little.
        checks.due("calls make nothing", all < 512 ? 1 : 0, 1);
        checks.end();
    }

    private static long made() {
        return THREADS.getThreadAllocatedBytes(Thread.currentThread().getId());
    }

    private static int useAll(FlowFold x) {
        int calls = 0;
        for (int i = 0; i < TEXT.length; i++) {
            x.letter(TEXT[i]);
            calls++;
        }
        x.fault();
        x.graph();
        x.image();
        for (int i = 0; i < 20; i++) {
            x.aim(i % 8, i % 2, 7 - i % 8);
            x.be(i % 8, i % 5);
            x.walk(i);
            x.visit(i);
            x.sign(i);
            x.fold(i % 4);
            x.mend(i % 2);
            x.see(i % 8, 1 + i % 3, i % 3);
            x.node(i % 8, i % 10);
            x.as(i % 8, i % 5);
            x.edge(i % 8, i % 2);
            x.dominates(i % 8, 3);
            x.drawn(1 + i % 8, i, i % 3);
            x.count(i % 12);
            x.digest();
            calls += 15;
        }
        x.restore();
        x.forget();
        x.blank();
        return calls + 6;
    }
}
