/** Who sticks, paper, drops seen, drops drawn: part 3, DRAWN of part 4, promises 18 to 26. */
final class BoundsOfSeen {
    private static final int YC = Due.yc(0, 5);

    private final Says says;

    private BoundsOfSeen(Says says) {
        this.says = says;
    }

    static void ask(Says says) {
        BoundsOfSeen bounds = new BoundsOfSeen(says);
        bounds.stops();
        bounds.waitOrPush();
        bounds.sticks();
        bounds.sure();
        bounds.mean();
        bounds.fiveOfTheOrder();
        bounds.paper();
        bounds.windBy();
        bounds.judged();
        bounds.fromWhere();
        bounds.which();
        bounds.whichOfFourAtMost();
        bounds.draws();
        bounds.drawsOfSeveral();
        bounds.drawn();
    }

    private void stops() {
        OutByTurns x = Due.on(0, 120, 3);
        says.part(3, "if the k-th (0 on) of an ORDER stops in the door for n seconds (1 .. 20), all from it on go so much later:"
            + " how many are GOOD then;");
        says.is("the 0th for 0 seconds", x.sticks(0, YC, 0, 0), OutByTurns.BAD);
        says.is("the 0th for 1 second: 10, 60, 110", x.sticks(0, YC, 1, 0), 3);
        says.is("the 0th for 2 seconds: 20, 70, 120", x.sticks(0, YC, 2, 0), 3);
        says.is("the 0th for 3 seconds: 30, 80, 130", x.sticks(0, YC, 3, 0), 2);
        says.is("the 0th for 20 seconds", x.sticks(0, YC, 20, 0), 0);
        says.is("the 0th for 21 seconds", x.sticks(0, YC, 21, 0), OutByTurns.BAD);
        says.is("the last for 20 seconds: 0, 50, 300", x.sticks(0, YC, 220, 0), 2);
        says.is("the last for 21 seconds", x.sticks(0, YC, 221, 0), OutByTurns.BAD);
        says.is("the last for 1 second on a longer field", Due.on(-99, 120, 3).sticks(0, YC, 201, 0), 3);
        says.is("by 1 they MEET", x.drop(0, Due.yc(0, 1), 2), 0);
        says.is("the last far behind: the others MEET", x.sticks(0, Due.yc(0, 1), 205, 0), 1);
    }

    private void waitOrPush() {
        OutByTurns x = Due.on(0, 120, 3);
        says.part(3, "WAIT OR PUSH: whether more are GOOD if it is left out (it stays in, those behind go as ever): 1, else 0.");
        says.is("fewer", x.sticks(0, YC, 2, 1), 0);
        says.is("as many", x.sticks(0, YC, 3, 1), 0);
        says.is("more", x.sticks(0, YC, 8, 1), 1);
        says.is("more by two", x.sticks(0, YC, 20, 1), 1);
        says.is("of the second, more", x.sticks(0, YC, 120, 1), 1);
        says.is("of the last, as many", x.sticks(0, YC, 220, 1), 0);
        x.mend(0, 5, 90);
        says.is("those behind do not move up", x.sticks(0, YC, 120, 1), 0);
        OutByTurns y = Due.on(0, 20, 3);
        says.is("nobody MEETS the one that stays in", y.sticks(0, Due.yc(0, 1), 120, 1), 1);
    }

    private void sticks() {
        OutByTurns x = Due.on(0, 120, 3);
        says.promise(18, "STICKS (kn: 100 k and n): GOOD (what 0), WAIT OR PUSH (1).");
        says.is("kn -1", x.sticks(0, YC, -1, 0), OutByTurns.BAD);
        says.is("kn -101", x.sticks(0, YC, -101, 0), OutByTurns.BAD);
        says.is("the least kn", x.sticks(0, YC, Integer.MIN_VALUE, 0), OutByTurns.BAD);
        says.is("the most kn", x.sticks(0, YC, Integer.MAX_VALUE, 0), OutByTurns.BAD);
        says.is("kn 99", x.sticks(0, YC, 99, 0), OutByTurns.BAD);
        says.is("kn 100", x.sticks(0, YC, 100, 0), OutByTurns.BAD);
        says.is("kn 101", x.sticks(0, YC, 101, 0), 3);
        says.is("COUNT 0", x.sticks(0, Due.yc(0, 0), 1, 0), OutByTurns.BAD);
        says.is("SPOT 1000", x.sticks(0, Due.yc(1000, 5), 1, 0), OutByTurns.BAD);
        says.is("what -1", x.sticks(0, YC, 1, -1), OutByTurns.BAD);
        says.is("what 2", x.sticks(0, YC, 1, 2), OutByTurns.BAD);
        says.promise(18, "BAD, -11, -12; BAD behind these: no such k.");
        x.row(2, 1, 3);
        says.is("nothing there, no such k", x.sticks(1, YC, 901, 0), -11);
        says.is("shorts, no such k", x.sticks(2, YC, 901, 0), -12);
        says.is("nothing there, n 0", x.sticks(1, YC, 900, 0), OutByTurns.BAD);
        says.is("the last k", x.sticks(0, YC, 201, 0), 3);
        says.is("no such k", x.sticks(0, YC, 301, 0), OutByTurns.BAD);
        Due.order(x, 0);
        says.is("nobody's first", x.sticks(0, YC, 1, 0), OutByTurns.BAD);
    }

    private void sureIs(String what, OutByTurns x, long above, long below) {
        says.is(what + ", above the line", x.sure(0, 0), above);
        says.is(what + ", below the line", x.sure(0, 1), below);
    }

    private void sure() {
        OutByTurns x = Due.on(0, 300, 7);
        says.part(3, "SURE: how likely nobody of an ORDER stops: a fraction in lowest terms;");
        sureIs("nobody ever stops", x, 1, 1);
        x.mend(6, 3, 6);
        sureIs("the last of 7 at times", x, 1, 2);
        for (int number = 0; number < 7; number++) {
            x.mend(number, 3, 11);
        }
        sureIs("1 of 12 seven times", x, 1, 35831808);
        x.mend(3, 3, 12);
        sureIs("one always", x, 0, 1);
        Due.order(x, 0, 2);
        sureIs("of one", x, 1, 12);
        Due.order(x, 0);
        sureIs("of nobody", x, 1, 1);
        says.promise(19, "SURE. Long.MIN_VALUE: BAD, or no ROW of bytes.");
        says.is("part -1", x.sure(0, -1), Due.NO_LONG);
        says.is("part 2", x.sure(0, 2), Due.NO_LONG);
        says.is("nothing there", x.sure(1, 0), Due.NO_LONG);
        x.row(1, 1, 1);
        says.is("a ROW of shorts", x.sure(1, 0), Due.NO_LONG);
        says.is("SHELF 6", x.sure(6, 0), Due.NO_LONG);
    }

    private void meanIs(String what, OutByTurns x, int n, long above, long below) {
        says.is(what + ", above the line", x.mean(0, YC, n, 0), above);
        says.is(what + ", below the line", x.mean(0, YC, n, 1), below);
    }

    private void mean() {
        OutByTurns x = Due.on(0, 120, 3);
        says.part(3, "MEAN GOOD: how many are GOOD on the mean, if each for itself stops for n seconds by STICKS");
        meanIs("nobody ever stops", x, 20, 3, 1);
        x.mend(2, 3, 12);
        meanIs("the last always, for 2 seconds: 0, 50, 120", x, 2, 3, 1);
        meanIs("the last always, for 3 seconds: 0, 50, 130", x, 3, 2, 1);
        x.mend(2, 3, 0);
        x.mend(0, 3, 6);
        meanIs("the first at times, for 3 seconds: 30, 80, 130", x, 3, 5, 2);
        x.mend(1, 3, 4);
        // 6 and 4 of 12: both 30, 110, 160; the first 30, 80, 130; the second 0, 80, 130; neither 0, 50, 100.
        meanIs("two of them", x, 3, 2 * 2 + 3, 3);
        for (int number = 0; number < 3; number++) {
            x.mend(number, 3, 6);
        }
        meanIs("all of them: 3 if none stops, 2 if any does", x, 3, 7 * 2 + 3, 8);
        x.mend(0, 3, 12);
        x.mend(1, 3, 12);
        meanIs("both always, for 20 seconds", x, 20, 0, 1);
        Due.order(x, 0);
        meanIs("nobody", x, 20, 0, 1);
        says.promise(20, "MEAN GOOD, n seconds. Long.MIN_VALUE likewise.");
        says.is("n 0", x.mean(0, YC, 0, 0), Due.NO_LONG);
        says.is("n 1", x.mean(0, YC, 1, 0), 0);
        says.is("n 20", x.mean(0, YC, 20, 0), 0);
        says.is("n 21", x.mean(0, YC, 21, 0), Due.NO_LONG);
        says.is("part -1", x.mean(0, YC, 1, -1), Due.NO_LONG);
        says.is("part 2", x.mean(0, YC, 1, 2), Due.NO_LONG);
        says.is("COUNT 0", x.mean(0, Due.yc(0, 0), 1, 0), Due.NO_LONG);
        says.is("nothing there", x.mean(1, YC, 1, 0), Due.NO_LONG);
    }

    private void fiveOfTheOrder() {
        OutByTurns x = Due.on(0, 999, 7);
        says.part(3, "(5 of the ORDER count): a fraction.");
        meanIs("of seven", x, 1, 5, 1);
        x.mend(5, 3, 12);
        x.mend(6, 3, 6);
        meanIs("the sixth and the seventh stop", x, 20, 5, 1);
        x.mend(4, 3, 6);
        x.mend(0, 5, 200);
        meanIs("the fifth stops at times", x, 1, 9, 2);
        Due.order(x, 0, 0, 1, 2, 3, 5, 4);
        meanIs("who is the fifth now stops always", x, 1, 4, 1);
        Due.order(x, 0, 0, 1, 2, 3);
        meanIs("of four", x, 1, 4, 1);
    }

    private void paper() {
        OutByTurns x = new OutByTurns();
        says.part(3, "PAPER: thrown out at YARD y it comes DOWN at y and HEIGHT times (ABOVE and BELOW): where;");
        says.is("no wind", x.paper(5), 5);
        x.mend(0, 8, 30);
        x.mend(0, 9, 30);
        says.is("all the wind: not held", x.paper(999), 999 + 540);
        x.mend(0, 8, -30);
        says.is("against one another", x.paper(7), 7);
        x.mend(0, 9, -30);
        says.is("downward", x.paper(-999), -999 - 540);
        says.promise(21, "PAPER: where. VOID: BAD (y -999 .. 999).");
        says.is("y -1000", x.paper(-1000), OutByTurns.VOID);
        says.is("y 1000", x.paper(1000), OutByTurns.VOID);
        says.is("the least y", x.paper(Integer.MIN_VALUE), OutByTurns.VOID);
    }

    private void windBy() {
        OutByTurns x = new OutByTurns();
        says.part(3, "WIND BY: of all pairs of ABOVE and BELOW (-30 .. 30) by which paper from y falls on x, that with the least"
            + " of both without signs together (of like ones the least ABOVE): 100 times (ABOVE and 30), and BELOW and 30; NOT.");
        says.is("none", x.windBy(0, 0), 3030);
        says.is("1: 0 and 1", x.windBy(0, 9), 3031);
        says.is("-1: -1 and 0", x.windBy(0, -9), 2930);
        says.is("30: 0 and 30", x.windBy(0, 270), 3060);
        says.is("31: 1 and 30", x.windBy(0, 279), 3160);
        says.is("-30: -30 and 0", x.windBy(0, -270), 30);
        says.is("-31: -30 and -1", x.windBy(0, -279), 29);
        says.is("60", x.windBy(0, 540), 6060);
        says.is("61", x.windBy(0, 549), OutByTurns.NOT);
        says.is("-60", x.windBy(0, -540), 0);
        says.is("-61", x.windBy(0, -549), OutByTurns.NOT);
        says.is("between two", x.windBy(0, 8), OutByTurns.NOT);
        x.mend(0, 10, 1);
        x.mend(0, 8, 30);
        says.is("from 100 yards, whatever wind there is", x.windBy(-10, -2), 3038);
        says.promise(22, "WIND BY. BAD (y, x -999 .. 999); NOT.");
        int[] wrong = {-1000, 1000, Integer.MIN_VALUE, Integer.MAX_VALUE};
        for (int yard : wrong) {
            says.is("y " + yard, x.windBy(yard, 0), OutByTurns.BAD);
            says.is("x " + yard, x.windBy(0, yard), OutByTurns.BAD);
        }
        says.is("y and x 999", x.windBy(999, 999), 3030);
        says.is("y and x -999", x.windBy(-999, -999), 3030);
        says.is("y -999, x 999", x.windBy(-999, 999), OutByTurns.NOT);
    }

    private void judgedIs(String what, OutByTurns x, int due, long... yards) {
        Due.seen(x, 4, yards);
        says.is(what, x.judge(34, Due.yc(7, 5)), due);
    }

    private void judged() {
        OutByTurns x = Due.three();
        Due.order(x, 3, 0, 1, 2);
        says.part(3, "JUDGED of an ORDER from a SPOT by a COUNT: the first that is not so (one too much, too; fewer may be); NOT.");
        judgedIs("all are so", x, OutByTurns.NOT, 7, 107, 197);
        judgedIs("the first is not", x, 0, 6, 107, 197);
        judgedIs("the last is not", x, 2, 7, 107, 198);
        judgedIs("two are not", x, 1, 7, 108, 198);
        judgedIs("one too much", x, 3, 7, 107, 197, 0);
        judgedIs("one too much behind one that is not so", x, 2, 7, 107, 0, 0);
        judgedIs("one fewer", x, OutByTurns.NOT, 7, 107);
        judgedIs("one fewer, not so", x, 1, 7, 7);
        judgedIs("none", x, OutByTurns.NOT);
        Due.order(x, 3);
        judgedIs("none of nobody", x, OutByTurns.NOT);
        judgedIs("one of nobody", x, 0, 7);
        says.promise(23, "JUDGED (so: 10 times the SHELF of the ORDER, and that of what was SEEN). BAD, -11, -12; NOT.");
        Due.order(x, 5, 2, 1);
        Due.seen(x, 0, 97, 106);
        says.is("so 50", x.judge(50, Due.yc(7, 5)), 1);
        Due.order(x, 0, 2, 1);
        Due.seen(x, 5, 96);
        says.is("so 5", x.judge(5, Due.yc(7, 5)), 0);
        int[] wrong = {-1, -10, 6, 9, 56, 60, 65, 100, Integer.MIN_VALUE, Integer.MAX_VALUE};
        for (int so : wrong) {
            says.is("so " + so, x.judge(so, Due.yc(7, 5)), OutByTurns.BAD);
        }
        says.is("COUNT 0", x.judge(5, Due.yc(7, 0)), OutByTurns.BAD);
        says.is("BAD ahead of -11", x.judge(12, Due.yc(7, 21)), OutByTurns.BAD);
        says.is("no ORDER", x.judge(15, Due.yc(7, 5)), -11);
        says.is("nothing SEEN", x.judge(1, Due.yc(7, 5)), -11);
        says.is("-11 ahead of -12", x.judge(51, Due.yc(7, 5)), -11);
        says.is("bytes SEEN", x.judge(3, Due.yc(7, 5)), -12);
        says.is("an ORDER of shorts", x.judge(55, Due.yc(7, 5)), -12);
    }

    private void fromWhere() {
        OutByTurns x = Due.three();
        Due.order(x, 0, 0, 1);
        says.part(3, "FROM WHERE: the SPOT (of all YARDS; of like ones the least) from which an ORDER by a COUNT comes DOWN so;"
            + " VOID: none.");
        int[] spots = {-999, -998, 0, 998, 999};
        for (int spot : spots) {
            Due.seen(x, 1, spot, spot + 100);
            says.is("from " + spot, x.fromWhere(1, 5), spot);
            says.is("not by 6", x.fromWhere(1, 6), OutByTurns.VOID);
        }
        Due.seen(x, 1, -1000);
        says.is("from -1000", x.fromWhere(1, 5), OutByTurns.VOID);
        Due.seen(x, 1, 1000);
        says.is("from 1000", x.fromWhere(1, 5), OutByTurns.VOID);
        Due.seen(x, 1, 0, 100, 200);
        says.is("one too much", x.fromWhere(1, 5), OutByTurns.VOID);
        Due.seen(x, 1);
        says.is("none SEEN", x.fromWhere(1, 5), -999);
        Due.order(x, 5, 1, 0);
        Due.seen(x, 4, 50, 51);
        says.is("the second is never so", x.fromWhere(54, 5), OutByTurns.VOID);
        x.put(4, 1, 50);
        says.is("both on one yard", x.fromWhere(54, 5), 0);
        says.promise(24, "FROM WHERE. VOID: BAD, or not such ROWS, too.");
        says.is("COUNT 0", x.fromWhere(1, 0), OutByTurns.VOID);
        says.is("COUNT 1", x.fromWhere(1, 1), -999);
        says.is("COUNT 20", x.fromWhere(1, 20), -999);
        says.is("COUNT 21", x.fromWhere(1, 21), OutByTurns.VOID);
        int[] wrong = {-1, 6, 60, 2, 21, 0, 10, 11, Integer.MIN_VALUE, Integer.MAX_VALUE};
        for (int so : wrong) {
            says.is("so " + so, x.fromWhere(so, 5), OutByTurns.VOID);
        }
    }

    private void whichIs(String what, OutByTurns x, int many, int first, long... yards) {
        Due.seen(x, 1, yards);
        says.is(what + ", how many", x.which(1, YC, 0), many);
        says.is(what + ", the first", x.which(1, YC, 1), first);
    }

    private void which() {
        OutByTurns x = Due.three();
        says.promise(25, "WHICH (shelf: SEEN): how many (what 0), the first (1; NOT). BAD, -11, -12.");
        whichIs("the second", x, 1, 1, 50);
        whichIs("2, then 0", x, 1, 20, 90, 50);
        whichIs("0, then 2", x, 1, 2, 0, 140);
        whichIs("nobody", x, 0, OutByTurns.NOT, 51);
        whichIs("nobody behind the second", x, 0, OutByTurns.NOT, 50, 100);
        says.is("what -1", x.which(1, YC, -1), OutByTurns.BAD);
        says.is("what 2", x.which(1, YC, 2), OutByTurns.BAD);
        says.is("BAD ahead of -11", x.which(2, YC, 2), OutByTurns.BAD);
        says.is("COUNT 21", x.which(1, Due.yc(0, 21), 0), OutByTurns.BAD);
    }

    private void whichOfFourAtMost() {
        says.part(3, "WHICH: how many orders of as many JUMPERS as were seen (4 at most) come DOWN so from a SPOT by a COUNT;"
            + " the first (as digits, the first one's first; NOT).");
        whichIs("none of nobody", new OutByTurns(), 1, 0);
        whichIs("one of nobody", new OutByTurns(), 0, OutByTurns.NOT, 0);
        whichIs("two of one", Due.on(0, 300, 1), 0, OutByTurns.NOT, 0, 50);
        whichIs("none of 7", Due.on(0, 300, 7), 1, 0);
        whichIs("one of 7", Due.on(0, 300, 7), 7, 0, 0);
        whichIs("4 of 4", Due.on(0, 300, 4), 24, 123, 0, 50, 100, 150);
        whichIs("4 of 7", Due.on(0, 300, 7), 840, 123, 0, 50, 100, 150);
        whichIs("4 of 3", Due.on(0, 300, 3), 0, OutByTurns.NOT, 0, 50, 100, 150);
        whichIs("4 of 7, the fourth not so", Due.on(0, 300, 7), 0, OutByTurns.NOT, 0, 50, 100, 151);
        whichIs("5 of 7: 4 count", Due.on(0, 300, 7), 840, 123, 0, 50, 100, 150, 200);
        whichIs("5 of 7, the fifth not so", Due.on(0, 300, 7), 840, 123, 0, 50, 100, 150, -1);
    }

    /** FIELD and LAW so that just one who stops for 5 seconds is GOOD. */
    private static OutByTurns goodIfItStops(int sticks) {
        OutByTurns x = Due.on(50, 50, 1);
        x.mend(0, 3, sticks);
        return x;
    }

    private void draws() {
        says.part(4, "by a SEED: z = z * 1103515245 + 12345 (an int; SEED at first) ahead of each JUMPER: it stops for 5 seconds,"
            + " if (z >>> 8) % 12 is below STICKS");
        // (z >>> 8) % 12 by a SEED of 0 is 0, 6, 3, 4, 6, 4.
        int[] sticks = {0, 1, 3, 4, 5, 6, 7, 12};
        int[] stops = {0, 1, 1, 2, 4, 4, 6, 6};
        for (int i = 0; i < sticks.length; i++) {
            says.is("6 drops, STICKS " + sticks[i], goodIfItStops(sticks[i]).drawn(0, 0, YC, 60), stops[i]);
        }
        // SEED, and what it gives at first; the first two and the last wrap.
        int[][] seeds = {{Integer.MAX_VALUE, 5}, {Integer.MIN_VALUE, 8}, {1, 2}, {-1, 1}, {7, 1}};
        for (int[] seed : seeds) {
            says.is("SEED " + seed[0] + ", it goes", goodIfItStops(seed[1]).drawn(0, seed[0], YC, 10), 0);
            says.is("SEED " + seed[0] + ", it stops", goodIfItStops(seed[1] + 1).drawn(0, seed[0], YC, 10), 1);
        }
    }

    private void drawsOfSeveral() {
        says.part(4, "(all behind it later, too)");
        // By a SEED of 0: 0 and 6, 3 and 4, 6 and 4 for the two; the first stops in the first drop alone.
        OutByTurns x = Due.on(70, 70, 2);
        x.mend(0, 3, 1);
        says.is("0 and 20; but once 50 and 70", x.drawn(0, 0, Due.yc(0, 2), 30), 1);
        OutByTurns y = Due.on(0, 0, 2);
        y.mend(1, 3, 12);
        says.is("the one ahead is not later", y.drawn(0, 0, Due.yc(0, 2), 30), 3);
        OutByTurns z = Due.on(120, 120, 2);
        z.mend(0, 3, 12);
        z.mend(1, 3, 12);
        says.is("both stop: 50 and 120", z.drawn(0, 0, Due.yc(0, 2), 30), 3);
        says.part(4, "how many are GOOD, all together; in how many drops all.");
        x.mend(0, 4, 20);
        says.is("20 or 50 and 70, all together", x.drawn(0, 0, Due.yc(0, 2), 30), 4);
        says.is("in how many drops both", x.drawn(0, 0, Due.yc(0, 2), 31), 1);
        Due.order(x, 0);
        says.is("of nobody none", x.drawn(0, 0, Due.yc(0, 2), 200), 0);
        says.is("of nobody all, in all drops", x.drawn(0, 0, Due.yc(0, 2), 201), 20);
    }

    private void drawn() {
        OutByTurns x = Due.on(0, 0, 1);
        says.part(4, "DRAWN: n drops (1 .. 20) of an ORDER from a SPOT by a COUNT");
        says.is("0 drops", x.drawn(0, 0, YC, 0), OutByTurns.BAD);
        says.is("1 drop", x.drawn(0, 0, YC, 10), 1);
        says.is("20 drops", x.drawn(0, 0, YC, 200), 20);
        says.is("21 drops", x.drawn(0, 0, YC, 210), OutByTurns.BAD);
        says.promise(26, "DRAWN (nw: 10 n, and 0 GOOD, 1 drops). BAD, -11, -12.");
        int[] wrong = {-10, -1, 1, 9, 12, 19, 202, 209, 211, Integer.MIN_VALUE, Integer.MAX_VALUE};
        for (int nw : wrong) {
            says.is("nw " + nw, x.drawn(0, 0, YC, nw), OutByTurns.BAD);
        }
        says.is("nw 11", x.drawn(0, 0, YC, 11), 1);
        says.is("nw 201", x.drawn(0, 0, YC, 201), 20);
        says.is("COUNT 0", x.drawn(0, 0, Due.yc(0, 0), 10), OutByTurns.BAD);
        says.is("BAD ahead of -11", x.drawn(1, 0, YC, 12), OutByTurns.BAD);
    }
}
