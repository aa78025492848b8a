import java.util.Arrays;
import java.util.Random;

/** For any arguments in any state a call answers, the same calls answer the same, and a refusal changes nothing. */
public final class NeverFailsTest {
    private static final Due DUE = new Due("NeverFailsTest");
    private static final int RUNS = 1500;
    private static final int CALLS = 512;
    private static final int SORTS = 43;
    private static final int[] EDGES = {Integer.MIN_VALUE, Integer.MIN_VALUE + 1, -2000000000, -1000, -999, -101, -100,
        -30, -3, -2, -1, 0, 1, 2, 3, 5, 6, 7, 9, 10, 12, 20, 21, 60, 61, 99, 100, 101, 119, 120, 255, 256, 998, 999,
        1000, 99901, 99905, 105005, 199820, 199821, 199900, Integer.MAX_VALUE - 1, Integer.MAX_VALUE};

    public static void main(String[] args) {
        for (int seed = 0; seed < RUNS; seed++) {
            run(seed);
        }
        DUE.end();
    }

    private static void run(int seed) {
        Random random = new Random(seed);
        OutByTurns x = new OutByTurns();
        OutByTurns twin = new OutByTurns();
        if (random.nextInt(4) != 0) {
            settle(x);
            settle(twin);
        }
        for (int i = 0; i < CALLS; i++) {
            int sort = random.nextInt(SORTS);
            int[] a = new int[5];
            for (int k = 0; k < 5; k++) {
                a[k] = argument(random);
            }
            if (random.nextInt(3) == 0) {
                a[1] = 99901 + 100 * (random.nextInt(400) - 200) + random.nextInt(20);
            }
            String call = "run " + seed + ", call " + i + " of sort " + sort + " by " + Arrays.toString(a);
            try {
                long[] before = i % 16 == 0 ? seen(x) : null;
                long answer = call(x, sort, a);
                DUE.is(call + ", its twin", call(twin, sort, a), answer);
                if (before != null && isRefusal(sort, answer)) {
                    DUE.holds(call + " changed nothing", Arrays.equals(before, seen(x)));
                }
            } catch (Throwable thrown) {
                DUE.holds(call + " threw " + thrown, false);
                return;
            }
        }
    }

    /** Jumpers, bodies and rows, so that calls meet something. */
    private static void settle(OutByTurns x) {
        for (int k = 0; k < 5; k++) {
            x.jumper(k + 1, 2 * k);
            x.body(k + 3);
            x.mend(k, 3, 2 * k);
        }
        Due.order(x, 0, 3, 1, 4, 0, 2);
        Due.seen(x, 1, 5, 120, -7);
        Due.order(x, 2, 1, 2);
        x.keep(3, 2);
        Due.row(x, 4, 3, 1L << 40, 2, 3);
        x.mend(0, 6, 50);
    }

    private static int argument(Random random) {
        switch (random.nextInt(6)) {
            case 0:
                return random.nextInt();
            case 1:
                return EDGES[random.nextInt(EDGES.length)];
            case 2:
                return random.nextInt(200) - 50;
            default:
                return random.nextInt(8);
        }
    }

    /** Calls whose refusals look like no other answer of theirs. */
    private static boolean isRefusal(int sort, long answer) {
        switch (sort) {
            case 2:
            case 3:
                return answer == -3000;
            case 7:
            case 9:
            case 18:
            case 22:
            case 25:
            case 26:
                return answer == OutByTurns.VOID;
            case 17:
            case 21:
            case 38:
                return answer == Long.MIN_VALUE;
            case 5:
            case 28:
            case 33:
            case 34:
                return false;
            default:
                return answer < 0 && answer >= -14;
        }
    }

    private static long[] seen(OutByTurns x) {
        long[] seen = new long[7 * 4 + 8 + 6 + 5 + 24 + 6 * 60];
        int at = 0;
        for (int number = 0; number < 7; number++) {
            for (int what = 0; what < 4; what++) {
                seen[at++] = x.of(number, what);
            }
        }
        for (int what = 4; what <= 11; what++) {
            seen[at++] = x.of(0, what);
        }
        for (int what = 0; what <= 5; what++) {
            seen[at++] = x.led(what);
        }
        for (int what = 0; what <= 4; what++) {
            seen[at++] = x.count(what);
        }
        for (int i = 0; i < 24; i++) {
            seen[at++] = x.trace(i);
        }
        for (int shelf = 0; shelf < 6; shelf++) {
            for (int i = 0; i < 60; i++) {
                seen[at++] = x.element(shelf, i);
            }
        }
        return seen;
    }

    private static long call(OutByTurns x, int sort, int[] a) {
        switch (sort) {
            case 0: return x.jumper(a[0], a[1]);
            case 1: return x.jumpers(a[0], a[2], a[3]);
            case 2: return x.mend(a[0], a[2], a[3]);
            case 3: return x.of(a[0], a[2]);
            case 4: return x.feed("wsqabh12?;()!-+<".charAt(a[0] & 15) + (a[2] == 0 ? a[3] : 0));
            case 5: return x.law();
            case 6: return x.drop(a[0], a[1], a[2]);
            case 7: return x.carried(a[0]);
            case 8: return x.down(a[0], a[1], a[2]);
            case 9: return x.spotFor(a[0], a[2], a[3]);
            case 10: return x.countFor(a[0], a[2], a[3]);
            case 11: return x.orderFor(a[1], a[2]);
            case 12: return x.pass(a[0], a[2], a[3]);
            case 13: return x.runIn(a[0], a[2]);
            case 14: return x.room(a[0]);
            case 15: return x.last(a[0], a[1]);
            case 16: return x.sticks(a[0], a[1], a[2], a[3]);
            case 17: return x.sure(a[0], a[2]);
            case 18: return x.paper(a[0]);
            case 19: return x.windBy(a[0], a[2]);
            case 20: return x.judge(a[0], a[1]);
            case 21: return x.mean(a[0], a[1], a[2], a[3]);
            case 22: return x.fromWhere(a[0], a[2]);
            case 23: return x.which(a[0], a[1], a[2]);
            case 24: return x.drawn(a[0], a[2], a[1], a[3]);
            case 25: return x.begin(a[0]);
            case 26: return x.go(a[0], a[2]);
            case 27: return x.over();
            case 28: return x.led(a[0]);
            case 29: return x.image();
            case 30: return x.back();
            case 31: return x.undo();
            case 32: return x.redo();
            case 33: return x.body(a[0]);
            case 34: return x.act(a[0], a[2], a[3]);
            case 35: return x.trace(a[0]);
            case 36: return x.keep(a[0], a[2]);
            case 37: return x.row(a[0], a[2], a[3]);
            case 38: return x.element(a[0], a[2]);
            case 39: return x.put(a[0], a[2], (long) a[3] << (a[4] & 31));
            case 40: return x.shift(a[0], a[1], a[2], a[3], a[4]);
            case 41: return x.taken(a[0], a[2]);
            default: return x.count(a[0]);
        }
    }
}
