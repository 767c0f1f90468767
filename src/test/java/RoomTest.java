import java.lang.management.ManagementFactory;

/** One run's room: what an object takes when it is made, and that no call of it takes more. */
public final class RoomTest {
    private static final com.sun.management.ThreadMXBean THREADS =
            (com.sun.management.ThreadMXBean) ManagementFactory.getThreadMXBean();

    private static long taken() {
        return THREADS.getThreadAllocatedBytes(Thread.currentThread().getId());
    }

    private static int useAll(TideFares x, int call) {
        int sum = x.ferry(call % 8, (call + 1) % 8, call % 200, 1 + call % 3, 1 + call % 99, call % 99);
        sum += x.kind(0, call % 3) + x.clock(0, call % 60) + x.set(0, call % 720) + x.set(1, call % 61);
        sum += x.place(call % 4, call % 8, call % 1440, call % 1000) + x.rest(0, 1);
        int last = x.count(0) - 1;
        if (x.refusal(0, last) == 0) {
            sum += x.take(0, last);
        }
        sum += x.append('a') + x.append('b') + x.append('@') + x.append('1') + x.append('/') + x.append('1');
        sum += x.append('+') + x.append('1') + x.append('$') + x.append('0') + x.firstError() + x.ferries();
        sum += x.append('!') + x.clearBuffer();
        sum += x.soonest(0, 1, 0) + x.cheapest(0, 1, 0, 1539) + x.lastStart(0, 1, 1539) + x.reach(0);
        sum += (int) x.digest() + (int) (x.joined() * 56) + x.drop(x.count(0) - 1) + x.undo();
        return sum + x.drop(0) + x.drop(0);
    }

    public static void main(String[] args) {
        // The first object of a run loads the classes, which is not what is measured.
        new TideFares().digest();
        long first = taken();
        TideFares x = new TideFares();
        long made = taken() - first;
        Checks.holds("a new object takes " + made + " bytes", made < 12_000);
        x.ferry(0, 1, 0, 1, 1, 1);
        useAll(x, 0);
        long before = taken();
        int sum = 0;
        for (int call = 0; call < 1000; call++) {
            x.place(0, 0, 0, 0);
            sum += useAll(x, call);
        }
        long more = taken() - before;
        Checks.holds("1000 rounds of all calls take " + more + " bytes (" + sum + ")", more < 10_000);
        Checks.end("RoomTest");
    }
}
