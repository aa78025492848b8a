import java.lang.management.ManagementFactory;

/** All calls of a run live in one room: an object is small, and no call makes objects. */
public final class RoomTest {
    private static final Due DUE = new Due("RoomTest");
    private static final int MOST_BYTES_OF_ONE = 20000;

    public static void main(String[] args) {
        com.sun.management.ThreadMXBean threads = (com.sun.management.ThreadMXBean) ManagementFactory.getThreadMXBean();
        long thread = Thread.currentThread().getId();
        // Twice: the machine makes things of its own when classes and methods run for the first time.
        for (int round = 0; round < 2; round++) {
            long before = threads.getThreadAllocatedBytes(thread);
            OutByTurns x = new OutByTurns();
            long made = threads.getThreadAllocatedBytes(thread);
            dearCalls(x);
            long after = threads.getThreadAllocatedBytes(thread);
            if (round == 1) {
                DUE.holds("an object takes " + (made - before) + " bytes", made - before <= MOST_BYTES_OF_ONE);
                DUE.holds("its calls take " + (after - made) + " bytes", after - made <= 1000);
            }
        }
        DUE.end();
    }

    private static void dearCalls(OutByTurns x) {
        for (int who = 0; who < 5; who++) {
            x.jumper(5, who);
            x.mend(who, 3, 6);
            x.row(0, 0, 5);
            x.body(7);
        }
        for (int who = 0; who < 5; who++) {
            x.put(0, who, who);
        }
        x.row(1, 1, 4);
        for (int letter : new int[] {'w', '*', 's', '<', '(', 'a', '|', '2', ')', '?', '5', ';', '9'}) {
            x.feed(letter);
        }
        x.law();
        for (int i = 0; i < 20; i++) {
            x.spotFor(0, 5, 0);
            x.countFor(0, 0, 0);
            x.orderFor(99905, 0);
            x.pass(0, 5, 1);
            x.runIn(0, 5);
            x.last(0, 99905);
            x.mean(0, 99905, 5, 0);
            x.windBy(0, 90);
            x.fromWhere(1, 5);
            x.which(1, 99905, 0);
            x.drawn(0, 7, 99905, 200);
            x.begin(0);
            x.go(i % 5, 3);
            x.image();
            x.back();
            x.over();
            x.act(i % 5, 3, i);
            x.shift(0, 0, 0, 1, 3);
        }
    }
}
