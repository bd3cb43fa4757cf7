import java.lang.management.ManagementFactory;

/**
 * All calls of one run live in one room (LANGUAGE.md, rule 12): rows are made with the object, and no call makes
 * anything. Told by the machine's own count of bytes, where it keeps one.
 */
public final class RoomTest {
    /** What an object may take: far below a room of some millions of elements. */
    private static final long MOST_FOR_ONE = 100_000;
    /** The machine's count may have noise; a call that makes the smallest thing would be some thousands above it. */
    private static final long NOISE = 2_000;
    private static final int ROUNDS = 400;

    private static int sum;

    public static void main(String[] args) {
        if (!(ManagementFactory.getThreadMXBean() instanceof com.sun.management.ThreadMXBean)
                || !count().isThreadAllocatedMemorySupported()) {
            System.out.println("this machine doesn't count bytes: nothing was compared");
            return;
        }
        ThroughPack x = sea();
        ThroughPack y = sea();
        everyCall(y, 1);
        long before = bytes();
        ThroughPack z = new ThroughPack(6, 6);
        long made = bytes() - before;
        Check.due("an object takes " + made + " bytes", made < MOST_FOR_ONE, true);
        before = bytes();
        for (int i = 0; i < ROUNDS; i++) {
            everyCall(i % 3 == 0 ? z : x, i);
        }
        long more = bytes() - before;
        Check.due("calls took " + more + " bytes", more < NOISE, true);
        Check.due("calls were made", sum != 0, true);
        Check.end();
    }

    private static com.sun.management.ThreadMXBean count() {
        return (com.sun.management.ThreadMXBean) ManagementFactory.getThreadMXBean();
    }

    private static long bytes() {
        return count().getThreadAllocatedBytes(Thread.currentThread().getId());
    }

    private static ThroughPack sea() {
        ThroughPack x = new ThroughPack(6, 6);
        Check.rule(x, "may thick<60;cost 1+thick/20;nips thick>90 and wind=3;ice thick+(north-south)/9;walk thick>5;");
        Check.read(x, "go 1 when x<4 and east<60;go 2 when not south>50;");
        for (int k = 0; k < 12; k++) {
            x.ahead(k, k % 4);
        }
        for (int v = 0; v < 4; v++) {
            x.chances(v, 1, 2, 3, 4);
            x.drift(v, v - 1 & 1, v > 2 ? -1 : 0);
        }
        x.mark(35, false, true);
        x.mark(17, true, true);
        x.image();
        return x;
    }

    private static void everyCall(ThroughPack x, int i) {
        changes(x, i);
        plans(x, i);
        sum += x.prior(i % 6, i % 10) ? 1 : 0;
        sum += x.look(i % 36, i % 6) + x.think(i % 36, i % 6) + x.think(i % 36, -1);
        sum += x.run(1, i, 1 + i % 40, i % 4) + x.runs(1, i, 1 + i % 5, 1 + i % 9, i % 3);
        sum += i % 9 == 0 ? x.back() : i % 7 == 0 ? x.image() : x.about(i % 13);
    }

    private static void changes(ThroughPack x, int i) {
        boolean done = x.ice(i % 37, i % 100) & x.mark(i % 36, i % 2 == 0, i % 5 == 0) & x.edge(i % 101);
        done |= x.drift(i % 4, i % 3 - 1, i % 2) & x.chances(i % 4, 3, 3, 3, 1) & x.costs(i % 3, i % 4, i % 5);
        done |= x.ship(i % 2, i % 36, i % 100) & x.wind(i % 4) & x.by(i % 3 - 1) & x.many(12, 12) & x.home(i % 36);
        sum += done ? 1 : 0;
        sum += x.feed(1835104544, 826093883, 1835104544, 826093883, i) + x.end(i % 30) + x.text();
        sum += x.fault(0) + x.fault(1) + x.iceAt(i % 37) + x.of(i % 2, i % 4);
        sum += x.can(i % 2, i % 8) ? 1 : 0;
        sum += x.watch(i % 4, i % 8, (i + 3) % 8) + x.ahead(i % 12, i % 4) + x.order(i % 12, i % 8);
    }

    private static void plans(ThroughPack x, int i) {
        sum += x.soonest(0) + x.soonest(1) + x.soonest(10 + i % 12) + x.least() + x.told(-1) + x.told(i % 12);
        sum += x.last() + x.walk(i % 13) + x.leave() + x.winter(0) + x.winter(1) + x.winter(10 + i % 36);
        sum += x.surest(1 + i % 3, i % 3) + x.leads(-1) + x.leads(i % 36);
    }
}
