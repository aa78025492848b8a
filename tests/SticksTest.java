/** Promises 18 to 22 and 26: who sticks in the door, paper, drops by draws. */
public final class SticksTest {
    private static final Due DUE = new Due("SticksTest");

    public static void main(String[] args) {
        sticks();
        waitOrPush();
        wrongSticks();
        sure();
        mean();
        fiveCount();
        wrongMeans();
        paper();
        windBy();
        drawn();
        wrongDraws();
        DUE.end();
    }

    /** Three who come down where they go out, ten yards a second. */
    private static OutByTurns three() {
        OutByTurns x = new OutByTurns();
        for (int i = 0; i < 3; i++) {
            x.jumper(5, 3);
        }
        Due.law(x, "0");
        x.mend(0, 7, 10);
        Due.order(x, 0, 0, 1, 2);
        return x;
    }

    private static void sticks() {
        OutByTurns x = three();
        int yc = Due.yc(0, 5);
        x.mend(0, 5, 120);
        DUE.is("at first", x.drop(0, yc, 2), 3);
        DUE.is("the first stops 2 seconds: 20, 70, 120", x.sticks(0, yc, 2, 0), 3);
        DUE.is("the first stops 3 seconds: 30, 80, 130", x.sticks(0, yc, 3, 0), 2);
        DUE.is("the first stops 20 seconds", x.sticks(0, yc, 20, 0), 0);
        DUE.is("the second stops 3 seconds: 0, 80, 130", x.sticks(0, yc, 103, 0), 2);
        DUE.is("the second stops 20 seconds", x.sticks(0, yc, 120, 0), 1);
        DUE.is("the third stops 1 second: 0, 50, 110", x.sticks(0, yc, 201, 0), 3);
        DUE.is("the third stops 3 seconds", x.sticks(0, yc, 203, 0), 2);
        x.mend(0, 11, 1);
        DUE.is("against: 130, 50, 0 behind 3 seconds", x.sticks(0, Due.yc(130, 5), 103, 0), 2);
        x.mend(0, 11, 0);
        Due.law(x, "s*10");
        x.mend(1, 1, 0);
        // 30 and 10 of 1 second behind, and 20 of the second: only later they do not meet.
        DUE.is("by 2, two meet", x.drop(0, Due.yc(0, 2), 2), 1);
        DUE.is("who waits 3 seconds comes down beyond", x.sticks(0, Due.yc(0, 2), 103, 0), 3);
        DUE.is("it is no change", x.drop(0, Due.yc(0, 2), 2), 1);
    }

    private static void waitOrPush() {
        OutByTurns x = three();
        int yc = Due.yc(0, 5);
        x.mend(0, 5, 120);
        DUE.is("all wait and are GOOD", x.sticks(0, yc, 2, 1), 0);
        DUE.is("two by waiting, two by leaving it out", x.sticks(0, yc, 3, 1), 0);
        DUE.is("none by waiting", x.sticks(0, yc, 20, 1), 1);
        DUE.is("the second, one by waiting, two without", x.sticks(0, yc, 120, 1), 1);
        DUE.is("the third, two either way", x.sticks(0, yc, 203, 1), 0);
        x.mend(0, 5, 90);
        DUE.is("those behind go as ever: 0 and 100, not 0 and 50", x.sticks(0, yc, 120, 1), 0);
    }

    private static void wrongSticks() {
        OutByTurns x = three();
        Due.oddShelves(x);
        int yc = Due.yc(0, 5);
        DUE.is("no such k", x.sticks(0, yc, 301, 0), OutByTurns.BAD);
        DUE.is("the last k", x.sticks(0, yc, 201, 0), 3);
        DUE.is("n 0", x.sticks(0, yc, 100, 0), OutByTurns.BAD);
        DUE.is("n 21", x.sticks(0, yc, 121, 0), OutByTurns.BAD);
        DUE.is("kn -1", x.sticks(0, yc, -1, 0), OutByTurns.BAD);
        DUE.is("kn -199", x.sticks(0, yc, -199, 0), OutByTurns.BAD);
        DUE.is("what -1", x.sticks(0, yc, 1, -1), OutByTurns.BAD);
        DUE.is("what 2", x.sticks(0, yc, 1, 2), OutByTurns.BAD);
        DUE.is("a wrong yc", x.sticks(0, Due.yc(0, 21), 1, 0), OutByTurns.BAD);
        DUE.is("BAD before nothing there", x.sticks(1, yc, 1, 2), OutByTurns.BAD);
        DUE.is("nothing there before no such k", x.sticks(1, yc, 901, 0), -11);
        DUE.is("another kind before no such k", x.sticks(3, yc, 901, 0), -12);
        DUE.wants("sticks", 0, shelf -> x.sticks(shelf, yc, 1, 0), OutByTurns.BAD, -11, -12);
    }

    private static void fraction(String what, long above, long below, long aboveDue, long belowDue) {
        DUE.is(what + ", above the line", above, aboveDue);
        DUE.is(what + ", below the line", below, belowDue);
    }

    private static void sureIs(String what, OutByTurns x, long above, long below) {
        fraction(what, x.sure(0, 0), x.sure(0, 1), above, below);
    }

    private static void sure() {
        OutByTurns x = three();
        sureIs("nobody sticks", x, 1, 1);
        x.mend(0, 3, 3);
        sureIs("9 of 12", x, 3, 4);
        x.mend(1, 3, 5);
        sureIs("9 and 7 of 12", x, 7, 16);
        x.mend(2, 3, 1);
        sureIs("9, 7 and 11 of 12", x, 77, 192);
        Due.order(x, 0, 2, 1);
        sureIs("7 and 11 of 12", x, 77, 144);
        x.mend(1, 3, 12);
        sureIs("one sticks always", x, 0, 1);
        Due.order(x, 0);
        sureIs("nobody", x, 1, 1);
        OutByTurns y = new OutByTurns();
        for (int i = 0; i < 7; i++) {
            y.jumper(5, 3);
            y.mend(i, 3, 1);
        }
        Due.order(y, 0, 0, 1, 2, 3, 4, 5, 6);
        sureIs("11 of 12 seven times", y, 19487171, 35831808);
        Due.oddShelves(y);
        DUE.is("part -1", y.sure(0, -1), Due.NO_LONG);
        DUE.is("part 2", y.sure(0, 2), Due.NO_LONG);
        DUE.wants("sure", 0, shelf -> y.sure(shelf, 0), Due.NO_LONG, Due.NO_LONG, Due.NO_LONG);
    }

    private static void meanIs(String what, OutByTurns x, int yc, int n, long above, long below) {
        fraction(what, x.mean(0, yc, n, 0), x.mean(0, yc, n, 1), above, below);
    }

    private static void mean() {
        OutByTurns x = three();
        x.mend(0, 5, 120);
        int yc = Due.yc(0, 5);
        meanIs("nobody sticks", x, yc, 20, 3, 1);
        x.mend(2, 3, 12);
        meanIs("the third sticks always", x, yc, 3, 2, 1);
        x.mend(2, 3, 3);
        // 3 of 4 times 3, 1 of 4 times 2.
        meanIs("the third at times", x, yc, 3, 11, 4);
        x.mend(0, 3, 6);
        // first waits 2: 20, 70, 120; both: 20, 70, 140; third alone: 0, 50, 120.
        meanIs("the first and the third, 2 seconds", x, yc, 2, 23, 8);
        x.mend(0, 5, 100);
        // none: 3 (3 of 8); first alone: 2 (3 of 8); third alone: 2 (1 of 8); both: 2 (1 of 8).
        meanIs("on a shorter field", x, yc, 2, 19, 8);
        meanIs("never on the field", x, Due.yc(500, 5), 2, 0, 1);
        x.mend(0, 11, 1);
        meanIs("against: 1, -49, -99", x, Due.yc(1, 5), 1, 3 * 3 + 3 * 2 + 2 + 2, 8);
        Due.order(x, 0);
        meanIs("nobody", x, yc, 2, 0, 1);
    }

    private static void fiveCount() {
        OutByTurns x = new OutByTurns();
        for (int i = 0; i < 7; i++) {
            x.jumper(5, 3);
            x.mend(i, 3, 4);
        }
        Due.law(x, "0");
        x.mend(0, 5, 999);
        x.mend(0, 7, 11);
        Due.order(x, 0, 6, 5, 4, 3, 2, 1, 0);
        meanIs("all GOOD, five of them", x, Due.yc(0, 1), 1, 5, 1);
        Due.order(x, 0, 6, 5, 4, 3);
        meanIs("all GOOD, four", x, Due.yc(0, 1), 1, 4, 1);
    }

    private static void wrongMeans() {
        OutByTurns x = three();
        Due.oddShelves(x);
        int yc = Due.yc(0, 5);
        DUE.is("n 0", x.mean(0, yc, 0, 0), Due.NO_LONG);
        DUE.is("n 21", x.mean(0, yc, 21, 0), Due.NO_LONG);
        DUE.is("n 20", x.mean(0, yc, 20, 0), 3);
        DUE.is("part -1", x.mean(0, yc, 1, -1), Due.NO_LONG);
        DUE.is("part 2", x.mean(0, yc, 1, 2), Due.NO_LONG);
        DUE.is("a wrong yc", x.mean(0, Due.yc(0, 0), 1, 0), Due.NO_LONG);
        DUE.wants("mean", 0, shelf -> x.mean(shelf, yc, 1, 0), Due.NO_LONG, Due.NO_LONG, Due.NO_LONG);
    }

    private static void paper() {
        OutByTurns x = three();
        DUE.is("no wind", x.paper(-7), -7);
        x.mend(0, 8, 12);
        x.mend(0, 9, -5);
        DUE.is("9 times 7", x.paper(-7), 56);
        x.mend(0, 10, 2);
        DUE.is("2 times 7", x.paper(999), 1013);
        DUE.is("from -999", x.paper(-999), -985);
        DUE.is("from -1000", x.paper(-1000), Due.NONE);
        DUE.is("from 1000", x.paper(1000), Due.NONE);
        x.mend(0, 10, 9);
        x.mend(0, 8, 30);
        x.mend(0, 9, 30);
        DUE.is("paper is not held", x.paper(999), 999 + 540);
        x.mend(0, 11, 1);
        DUE.is("either way", x.paper(0), 540);
    }

    private static void windBy() {
        OutByTurns x = three();
        DUE.is("no wind", x.windBy(3, 3), 3030);
        DUE.is("1 below", x.windBy(0, 9), 3031);
        DUE.is("1 below, downward: -1 above is less", x.windBy(0, -9), 2930);
        DUE.is("30", x.windBy(0, 270), 3060);
        DUE.is("31: 1 and 30", x.windBy(0, 279), 3160);
        DUE.is("-31: -30 and -1", x.windBy(0, -279), 29);
        DUE.is("60", x.windBy(0, 540), 6060);
        DUE.is("-60", x.windBy(540, 0), 0);
        DUE.is("61", x.windBy(0, 549), OutByTurns.NOT);
        DUE.is("-61", x.windBy(549, 0), OutByTurns.NOT);
        DUE.is("between", x.windBy(0, 10), OutByTurns.NOT);
        x.mend(0, 10, 5);
        DUE.is("from 500 yards", x.windBy(10, 20), 3032);
        DUE.is("the winds are as they were", x.of(0, 8), 0);
        int[] wrong = {-1000, 1000, Integer.MIN_VALUE, Integer.MAX_VALUE};
        for (int yard : wrong) {
            DUE.is("windBy(" + yard + ", 0)", x.windBy(yard, 0), OutByTurns.BAD);
            DUE.is("windBy(0, " + yard + ")", x.windBy(0, yard), OutByTurns.BAD);
        }
        x.mend(0, 10, 9);
        DUE.is("the ends of the line", x.windBy(-999, 999), OutByTurns.NOT);
        DUE.is("the same end", x.windBy(999, 999), 3030);
        DUE.is("the other end", x.windBy(-999, -999), 3030);
    }

    /** As the document words it, apart from the class. */
    private static int[] draws(int seed, int n, int[] sticks, int from, int to, int count) {
        int z = seed;
        int good = 0;
        int whole = 0;
        for (int drop = 0; drop < n; drop++) {
            int second = 0;
            int landed = 0;
            for (int k = 0; k < sticks.length; k++) {
                z = z * 1103515245 + 12345;
                if ((z >>> 8) % 12 < sticks[k]) {
                    second += 5;
                }
                int down = 10 * (second + k * count);
                landed += down >= from && down <= to ? 1 : 0;
            }
            good += landed;
            whole += landed == sticks.length ? 1 : 0;
        }
        return new int[] {good, whole};
    }

    private static void drawn() {
        OutByTurns x = three();
        x.mend(0, 5, 160);
        int[] sticks = {2, 6, 4};
        for (int k = 0; k < 3; k++) {
            x.mend(k, 3, sticks[k]);
        }
        int[] seeds = {0, 1, -1, 12345, Integer.MIN_VALUE, Integer.MAX_VALUE, 77};
        for (int seed : seeds) {
            for (int n = 1; n <= 20; n++) {
                int[] due = draws(seed, n, sticks, -99, 160, 5);
                String told = n + " draws by " + seed;
                DUE.is(told + ", GOOD", x.drawn(0, seed, Due.yc(0, 5), 10 * n), due[0]);
                DUE.is(told + ", drops", x.drawn(0, seed, Due.yc(0, 5), 10 * n + 1), due[1]);
            }
        }
        for (int k = 0; k < 3; k++) {
            x.mend(k, 3, 12);
        }
        DUE.is("all stop: 50, 150, 250", x.drawn(0, 9, Due.yc(0, 5), 200), 40);
        DUE.is("all stop, drops", x.drawn(0, 9, Due.yc(0, 5), 201), 0);
        Due.order(x, 0);
        DUE.is("nobody, GOOD", x.drawn(0, 9, Due.yc(0, 5), 200), 0);
        DUE.is("nobody, drops", x.drawn(0, 9, Due.yc(0, 5), 201), 20);
    }

    private static void wrongDraws() {
        OutByTurns x = three();
        Due.oddShelves(x);
        int yc = Due.yc(0, 5);
        int[] wrong = {-1, -10, -9, 0, 1, 2, 9, 12, 19, 202, 210, 211, Integer.MIN_VALUE, Integer.MAX_VALUE};
        for (int nw : wrong) {
            DUE.is("nw " + nw, x.drawn(0, 1, yc, nw), OutByTurns.BAD);
        }
        DUE.is("a wrong yc", x.drawn(0, 1, Due.yc(0, 21), 10), OutByTurns.BAD);
        DUE.is("a wrong yc, nothing there", x.drawn(1, 1, Due.yc(0, 21), 10), OutByTurns.BAD);
        DUE.wants("drawn", 0, shelf -> x.drawn(shelf, 1, yc, 10), OutByTurns.BAD, -11, -12);
    }
}
