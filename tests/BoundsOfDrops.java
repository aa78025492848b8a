/** Drops in thought: part 2, what part 5 says of yc, promises 9 to 17. */
final class BoundsOfDrops {
    private final Says says;

    private BoundsOfDrops(Says says) {
        this.says = says;
    }

    static void ask(Says says) {
        BoundsOfDrops bounds = new BoundsOfDrops(says);
        bounds.spotAndCount();
        bounds.order();
        bounds.down();
        bounds.drop();
        bounds.spotFor();
        bounds.countFor();
        bounds.orderFor();
        bounds.manyJumpers();
        bounds.pass();
        bounds.passes();
        bounds.runIn();
        bounds.room();
        bounds.last();
        bounds.lastOfLikeOnes();
    }

    private void spotAndCount() {
        OutByTurns x = Due.on(-999, 999, 1);
        says.part(5, "(yc: 100 times (the SPOT and 999), and the COUNT; part 0 above, 1 below the line)");
        int[] wrong = {0, -1, -99, 21, 99, 100, 99900, 99921, 199800, 199821, 199900, 199901, Integer.MIN_VALUE,
            Integer.MAX_VALUE};
        for (int yc : wrong) {
            says.is("yc " + yc, x.down(0, yc, 0), OutByTurns.VOID);
        }
        says.is("yc 1", x.down(0, 1, 0), -999);
        says.is("yc 20", x.down(0, 20, 0), -999);
        says.is("yc 99901", x.down(0, 99901, 0), 0);
        says.is("yc 199820", x.down(0, 199820, 0), 999);
        x.mend(0, 3, 8);
        says.is("above the line", x.sure(0, 0), 1);
        says.is("below the line", x.sure(0, 1), 3);
    }

    private void order() {
        OutByTurns x = Due.on(-999, 999, 7);
        int yc = Due.yc(0, 5);
        says.part(2, "an ORDER (7 at most; one that is none, or came before, ends it)");
        says.is("7", x.drop(0, yc, 0), 7);
        Due.order(x, 0, 6, 5, 4, 3, 2, 1, 0, 0, 1);
        says.is("an 8th came before", x.drop(0, yc, 0), 7);
        Due.order(x, 0, 6, 5, 4, 3, 2, 1, 0, 7);
        says.is("an 8th is none", x.drop(0, yc, 0), 7);
        Due.order(x, 0, 3, 4, 7, 5);
        says.is("the third is none", x.drop(0, yc, 0), 2);
        Due.order(x, 0, 3, -1, 5);
        says.is("the second is none", x.drop(0, yc, 0), 1);
        Due.order(x, 0, 3, 4, 3, 5);
        says.is("the third came before", x.drop(0, yc, 0), 2);
        Due.order(x, 0, 3, 3, 5);
        says.is("the second came just before", x.drop(0, yc, 0), 1);
        Due.order(x, 0, -128, 3);
        says.is("the first is none", x.drop(0, yc, 0), 0);
        Due.order(x, 0);
        says.is("a ROW of none", x.drop(0, yc, 0), 0);
    }

    private void down() {
        OutByTurns x = Due.on(-999, 999, 2);
        x.body(0);
        says.promise(9, "DOWN of the k-th. VOID: BAD, no ROW of bytes, there are not as many.");
        says.is("k -1", x.down(0, Due.yc(0, 5), -1), OutByTurns.VOID);
        says.is("k 0", x.down(0, Due.yc(0, 5), 0), 0);
        says.is("k 1", x.down(0, Due.yc(0, 5), 1), 50);
        says.is("k 2", x.down(0, Due.yc(0, 5), 2), OutByTurns.VOID);
        says.is("k of the most", x.down(0, Due.yc(0, 5), Integer.MAX_VALUE), OutByTurns.VOID);
        Due.order(x, 0, 1, 2, 0);
        says.is("behind the one that ends it", x.down(0, Due.yc(0, 5), 1), OutByTurns.VOID);
        for (int sort = 1; sort <= 4; sort++) {
            x.row(1, sort, 1);
            says.is("a ROW of sort " + sort, x.down(1, Due.yc(0, 5), 0), OutByTurns.VOID);
        }
        x.keep(1, 0);
        says.is("a BODY", x.down(1, Due.yc(0, 5), 0), OutByTurns.VOID);
        x.keep(1, -1);
        says.is("nothing", x.down(1, Due.yc(0, 5), 0), OutByTurns.VOID);
        says.is("SHELF -1", x.down(-1, Due.yc(0, 5), 0), OutByTurns.VOID);
        says.is("SHELF 6", x.down(6, Due.yc(0, 5), 0), OutByTurns.VOID);
        x.row(5, 0, 1);
        says.is("SHELF 5", x.down(5, Due.yc(7, 5), 0), 7);
    }

    private void drop() {
        OutByTurns x = Due.on(0, 100, 3);
        says.part(2, "how many come DOWN WELL; how many MEET; how many do both well: WELL and do not MEET: GOOD.");
        // 0 and 10 MEET, 20 and 10, too.
        says.is("all WELL", x.drop(0, Due.yc(0, 1), 0), 3);
        says.is("all MEET", x.drop(0, Due.yc(0, 1), 1), 3);
        says.is("none GOOD", x.drop(0, Due.yc(0, 1), 2), 0);
        says.is("by 2 one beyond: WELL", x.drop(0, Due.yc(61, 2), 0), 2);
        says.is("by 2 one beyond: MEET", x.drop(0, Due.yc(61, 2), 1), 0);
        says.is("by 2 one beyond: GOOD", x.drop(0, Due.yc(61, 2), 2), 2);
        says.is("beyond they MEET, too", x.drop(0, Due.yc(101, 1), 1), 3);
        says.promise(10, "WELL (what 0), MEET (1), GOOD (2). BAD, -11, -12 (no ROW of bytes).");
        says.is("what -1", x.drop(0, Due.yc(0, 1), -1), OutByTurns.BAD);
        says.is("what 3", x.drop(0, Due.yc(0, 1), 3), OutByTurns.BAD);
        says.is("BAD ahead of -11", x.drop(1, Due.yc(0, 1), 3), OutByTurns.BAD);
        Due.order(x, 0);
        for (int what = 0; what <= 2; what++) {
            says.is("nobody", x.drop(0, Due.yc(0, 1), what), 0);
        }
    }

    private void spotIs(String what, OutByTurns x, int yard, int many) {
        says.is(what + ", the YARD", x.spotFor(0, 5, 1), yard);
        says.is(what + ", how many", x.spotFor(0, 5, 0), many);
    }

    private void spotFor() {
        OutByTurns x = Due.on(-999, 999, 1);
        says.part(2, "SPOT FOR: of all YARDS -999 .. 999 that from which most are GOOD (of like ones the one nearest 0,"
            + " then the one below 0); how many.");
        spotIs("all alike", x, 0, 1);
        spotIs("all above 0", Due.on(5, 9, 1), 5, 1);
        spotIs("all below 0", Due.on(-9, -5, 1), -5, 1);
        spotIs("the end of the line", Due.on(999, 999, 1), 999, 1);
        spotIs("the other end", Due.on(-999, -999, 1), -999, 1);
        spotIs("the first from 999, the second from 949", Due.on(999, 999, 2), 949, 1);
        spotIs("both, the second above", Due.on(-50, 0, 2), -50, 2);
        x.mend(0, 6, 0);
        spotIs("-6 and 6", x, -6, 1);
        x.mend(0, 4, -5);
        spotIs("6, not -6", x, 6, 1);
        x.mend(0, 5, 5);
        spotIs("none", x, 0, 0);
        Due.order(x, 0);
        spotIs("nobody", x, 0, 0);
        // Who is carried 500 yards reaches 1000 and more from nowhere.
        OutByTurns y = Due.on(-999, -500, 1);
        Due.law(y, "500");
        spotIs("from -999 alone on -999 .. -499", y, 0, 0);
        y.mend(0, 5, -499);
        spotIs("from -999 alone", y, -999, 1);
        says.promise(11, "SPOT FOR by a COUNT: how many (what 0), the YARD (1). VOID: BAD, or no ROW of bytes.");
        says.is("COUNT 0", x.spotFor(0, 0, 0), OutByTurns.VOID);
        says.is("COUNT 1", x.spotFor(0, 1, 0), 0);
        says.is("COUNT 20", x.spotFor(0, 20, 0), 0);
        says.is("COUNT 21", x.spotFor(0, 21, 0), OutByTurns.VOID);
        says.is("what -1", x.spotFor(0, 5, -1), OutByTurns.VOID);
        says.is("what 2", x.spotFor(0, 5, 2), OutByTurns.VOID);
        says.is("nothing there", x.spotFor(1, 5, 0), OutByTurns.VOID);
        x.row(1, 1, 1);
        says.is("a ROW of shorts", x.spotFor(1, 5, 0), OutByTurns.VOID);
    }

    private void countIs(String what, OutByTurns x, int spot, int count, int many) {
        says.is(what + ", the COUNT", x.countFor(0, spot, 0), count);
        says.is(what + ", how many", x.countFor(0, spot, 1), many);
    }

    private void countFor() {
        says.part(2, "COUNT FOR: the COUNT (1 .. 20) by which, from a SPOT, most are GOOD (of like ones the least); how many.");
        countIs("one, by any", Due.on(-99, 300, 1), 0, 1, 1);
        countIs("two, not by 1", Due.on(-99, 300, 2), 0, 2, 2);
        countIs("none by any", Due.on(10, 10, 2), -1, 1, 0);
        countIs("by 20 alone", Due.on(200, 300, 2), 0, 20, 1);
        countIs("by 21 alone", Due.on(210, 300, 2), 0, 1, 0);
        OutByTurns x = Due.on(-99, 300, 0);
        countIs("nobody", x, 0, 1, 0);
        says.promise(12, "COUNT FOR from a SPOT: the COUNT (what 0), how many (1). BAD, -11, -12.");
        says.is("from -1000", x.countFor(0, -1000, 0), OutByTurns.BAD);
        says.is("from 1000", x.countFor(0, 1000, 0), OutByTurns.BAD);
        says.is("what -1", x.countFor(0, 0, -1), OutByTurns.BAD);
        says.is("what 2", x.countFor(0, 0, 2), OutByTurns.BAD);
        says.is("BAD ahead of -11", x.countFor(1, 1000, 0), OutByTurns.BAD);
    }

    private void orderIs(String what, OutByTurns x, int yc, int many, int... jumpers) {
        says.is(what + ", how many", x.orderFor(yc, -1), many);
        for (int k = 0; k < jumpers.length; k++) {
            says.is(what + ", the one at " + k, x.orderFor(yc, k), jumpers[k]);
        }
        says.is(what + ", none behind", x.orderFor(yc, jumpers.length), OutByTurns.NOT);
    }

    private void orderFor() {
        says.part(2, "ORDER FOR: of all orders of all JUMPERS (5 at most, else STATE) that by which, from a SPOT by a COUNT,"
            + " most are GOOD (of like ones the first by numbers): how many; the k-th.");
        orderIs("nobody", Due.on(-99, 300, 0), Due.yc(0, 5), 0);
        orderIs("one", Due.on(-99, 300, 1), Due.yc(0, 5), 1, 0);
        orderIs("5, all alike", Due.on(-99, 300, 5), Due.yc(0, 5), 5, 0, 1, 2, 3, 4);
        orderIs("5, none GOOD", Due.on(-99, -99, 5), Due.yc(0, 5), 0, 0, 1, 2, 3, 4);
        OutByTurns x = Due.three();
        x.mend(0, 5, 85);
        // Carried 0, 50, 90; going out at 0, 40, 80. Down 50, 130, 80 if 1 goes first, then 2.
        orderIs("1 2 0 alone has two", x, Due.yc(0, 4), 2, 1, 2, 0);
    }

    private void manyJumpers() {
        OutByTurns x = Due.on(-99, 300, 6);
        says.promise(13, "ORDER FOR: how many (k -1), the k-th. BAD; STATE; NOT: there are not as many.");
        says.is("6", x.orderFor(Due.yc(0, 5), -1), OutByTurns.STATE);
        says.is("STATE ahead of NOT", x.orderFor(Due.yc(0, 5), 6), OutByTurns.STATE);
        says.is("BAD ahead of STATE", x.orderFor(Due.yc(0, 5), -2), OutByTurns.BAD);
        says.is("a COUNT of 0", x.orderFor(Due.yc(0, 0), -1), OutByTurns.BAD);
        OutByTurns y = Due.on(-99, 300, 2);
        says.is("k -2", y.orderFor(Due.yc(0, 5), -2), OutByTurns.BAD);
        says.is("the least k", y.orderFor(Due.yc(0, 5), Integer.MIN_VALUE), OutByTurns.BAD);
        says.is("k 1", y.orderFor(Due.yc(0, 5), 1), 1);
        says.is("k 2", y.orderFor(Due.yc(0, 5), 2), OutByTurns.NOT);
        says.is("the most k", y.orderFor(Due.yc(0, 5), Integer.MAX_VALUE), OutByTurns.NOT);
        says.is("a SPOT of 1000", y.orderFor(Due.yc(1000, 5), 2), OutByTurns.BAD);
    }

    private void passIs(String what, OutByTurns x, int count, int inOne, int passes) {
        says.is(what + ", in one pass", x.pass(0, count, 0), inOne);
        says.is(what + ", passes", x.pass(0, count, 1), passes);
    }

    private void pass() {
        says.part(2, "A PASS: how many of an ORDER, from its first on, can go in one pass, so that all these are GOOD,"
            + " by the best SPOT;");
        passIs("all seven on 300 yards", Due.on(0, 300, 7), 5, 7, 1);
        passIs("six on 299", Due.on(0, 299, 7), 5, 6, 2);
        passIs("by 1 they MEET", Due.on(0, 300, 7), 1, 1, 7);
        passIs("by 2 they do not", Due.on(0, 300, 7), 2, 7, 1);
        // The second of the ORDER comes down so far off the line that it takes the first off the field.
        OutByTurns x = Due.on(-999, 999, 3);
        Due.law(x, "s*500");
        passIs("in reach", x, 5, 3, 1);
        x.mend(0, 5, -500);
        passIs("the second out of reach", x, 5, 1, OutByTurns.NOT);
    }

    private void passes() {
        says.part(2, "PASSES: how many passes it takes so, each with as many as can (NOT: somebody cannot alone).");
        passIs("nobody", Due.on(0, 300, 0), 5, 0, 0);
        passIs("one", Due.on(0, 0, 1), 5, 1, 1);
        passIs("each alone, two and one", Due.on(0, 50, 3), 5, 2, 2);
        passIs("3 and 3 and 1", Due.on(0, 100, 7), 5, 3, 3);
        OutByTurns x = Due.on(-999, -999, 3);
        x.mend(0, 7, 99);
        passIs("each pass from its own SPOT, not farther on", x, 20, 1, 3);
        x.mend(0, 6, -994);
        passIs("nobody can for the WIRE", x, 20, 0, OutByTurns.NOT);
        x.mend(0, 6, -993);
        passIs("one yard beside it", x, 20, 1, 3);
        says.promise(14, "A PASS by a COUNT: how many (what 0), PASSES (1; NOT). BAD, -11, -12.");
        says.is("COUNT 0", x.pass(0, 0, 0), OutByTurns.BAD);
        says.is("COUNT 21", x.pass(0, 21, 0), OutByTurns.BAD);
        says.is("what -1", x.pass(0, 5, -1), OutByTurns.BAD);
        says.is("what 2", x.pass(0, 5, 2), OutByTurns.BAD);
        says.is("BAD ahead of -11", x.pass(1, 5, 2), OutByTurns.BAD);
    }

    private void runIn() {
        OutByTurns x = Due.on(0, 20, 2);
        says.part(2, "RUN IN: by which way (0, 1) most are GOOD by the best SPOT each (of like ones 0).");
        Due.law(x, "s*50");
        says.is("both against alone", x.runIn(0, 5), 1);
        x.mend(0, 11, 1);
        says.is("whichever way it is", x.runIn(0, 5), 1);
        Due.order(x, 0, 1, 0);
        says.is("both upward alone", x.runIn(0, 5), 0);
        Due.order(x, 0, 1);
        says.is("one, either way", x.runIn(0, 5), 0);
        Due.order(x, 0);
        says.is("nobody", x.runIn(0, 5), 0);
        says.promise(15, "RUN IN by a COUNT. BAD, -11, -12.");
        says.is("COUNT 0", x.runIn(0, 0), OutByTurns.BAD);
        says.is("COUNT 20", x.runIn(0, 20), 0);
        says.is("COUNT 21", x.runIn(0, 21), OutByTurns.BAD);
        says.is("BAD ahead of -11", x.runIn(1, 21), OutByTurns.BAD);
    }

    private void room() {
        OutByTurns x = Due.on(0, 300, 7);
        says.part(2, "ROOM: the least COUNT by which nobody MEETS, wherever one begins (20 at most); NOT.");
        says.is("10 yards a second", x.room(0), 2);
        x.mend(0, 7, 11);
        says.is("11 yards a second", x.room(0), 1);
        // By 5 seconds nobody MEETS, whatever the SPEED: so neither 20 nor NOT is ever reached.
        x.mend(0, 7, 1);
        says.is("1 yard a second", x.room(0), 5);
        x.mend(0, 5, 0);
        says.is("most of them off the field", x.room(0), 5);
        says.promise(16, "ROOM. BAD, -11, -12; NOT.");
        Due.order(x, 0, 3);
        says.is("one", x.room(0), 1);
        Due.order(x, 0);
        says.is("nobody", x.room(0), 1);
        says.is("SHELF 6", x.room(6), OutByTurns.BAD);
    }

    private void last() {
        OutByTurns x = Due.on(-99, 300, 3);
        Due.law(x, "s*10");
        says.part(2, "WHO LAST: which of an ORDER, put last from a SPOT, COMES DOWN nearest the middle of THE FIELD"
            + " (FROM and TO by 2, cut; of like ones the least number).");
        // Put last by 5 each goes out 100 yards on and is carried 0, 10, 20; the middle is 100.
        says.is("at the middle", x.last(0, Due.yc(0, 5)), 0);
        says.is("10 yards short of it", x.last(0, Due.yc(-10, 5)), 1);
        says.is("0 and 1 as near", x.last(0, Due.yc(-5, 5)), 0);
        says.is("1 and 2 as near", x.last(0, Due.yc(-15, 5)), 1);
        Due.order(x, 0, 2, 1, 0);
        says.is("1 and 2 as near, 2 ahead of 1", x.last(0, Due.yc(-15, 5)), 1);
        Due.order(x, 0, 2, 0, 3, 1);
        says.is("1 is not in it", x.last(0, Due.yc(40, 5)), 0);
        x.mend(0, 11, 1);
        says.is("against", x.last(0, Due.yc(140, 5)), 0);
        OutByTurns y = Due.on(-100, 99, 2);
        Due.law(y, "s");
        Due.order(y, 0, 1, 0);
        says.is("-1 by 2 is 0", y.last(0, Due.yc(-11, 1)), 1);
        OutByTurns z = Due.on(-99, 100, 2);
        Due.law(z, "s");
        says.is("1 by 2 is 0", z.last(0, Due.yc(-10, 1)), 0);
    }

    private void lastOfLikeOnes() {
        OutByTurns x = Due.on(-99, 300, 7);
        says.promise(17, "WHO LAST. BAD, -11, -12; NOT: nobody is in it.");
        Due.order(x, 0, 6, 4, 5);
        says.is("three alike", x.last(0, Due.yc(0, 5)), 4);
        Due.order(x, 0, 6);
        says.is("one", x.last(0, Due.yc(0, 5)), 6);
        Due.order(x, 0, 7, 6);
        says.is("one that is none ends it at once", x.last(0, Due.yc(0, 5)), OutByTurns.NOT);
        Due.order(x, 0);
        says.is("nobody", x.last(0, Due.yc(0, 5)), OutByTurns.NOT);
        says.is("BAD ahead of NOT", x.last(0, Due.yc(0, 0)), OutByTurns.BAD);
        says.is("BAD ahead of -11", x.last(1, Due.yc(0, 21)), OutByTurns.BAD);
    }
}
