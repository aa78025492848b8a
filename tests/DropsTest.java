/** Promises 9 to 17: drops in thought. */
public final class DropsTest {
    private static final Due DUE = new Due("DropsTest");

    public static void main(String[] args) {
        down();
        orders();
        wellOnTheField();
        wellBesideTheWire();
        meet();
        good();
        spotFor();
        countFor();
        orderFor();
        orderForHowMany();
        pass();
        runIn();
        room();
        last();
        wrongShelves();
        wrongNumbers();
        DUE.end();
    }

    /** Jumpers of these skills, carried by just so many times them; a speed of 10. */
    private static OutByTurns with(String law, int... skills) {
        OutByTurns x = new OutByTurns();
        for (int skill : skills) {
            x.jumper(5, skill);
        }
        Due.law(x, law);
        x.mend(0, 7, 10);
        return x;
    }

    private static void down() {
        OutByTurns x = with("s*10", 0, 5, 9);
        Due.order(x, 0, 0, 1, 2);
        DUE.is("the first", x.down(0, Due.yc(0, 5), 0), 0);
        DUE.is("the second", x.down(0, Due.yc(0, 5), 1), 50 + 50);
        DUE.is("the third", x.down(0, Due.yc(0, 5), 2), 90 + 100);
        DUE.is("no fourth", x.down(0, Due.yc(0, 5), 3), Due.NONE);
        DUE.is("none before the first", x.down(0, Due.yc(0, 5), -1), Due.NONE);
        DUE.is("from 999 by 20", x.down(0, Due.yc(999, 20), 2), 999 + 400 + 90);
        DUE.is("from -999 by 1", x.down(0, Due.yc(-999, 1), 2), -999 + 20 + 90);
        x.mend(0, 11, 1);
        DUE.is("against", x.down(0, Due.yc(7, 5), 2), 7 - 100 + 90);
        DUE.is("yc below 0", x.down(0, -1, 0), Due.NONE);
        DUE.is("yc far below 0", x.down(0, Integer.MIN_VALUE, 0), Due.NONE);
        DUE.is("a count of 0", x.down(0, Due.yc(0, 0), 0), Due.NONE);
        DUE.is("a count of 21", x.down(0, Due.yc(0, 21), 0), Due.NONE);
        DUE.is("a spot of 1000", x.down(0, Due.yc(1000, 1), 0), Due.NONE);
        DUE.is("shelf -1", x.down(-1, Due.yc(0, 5), 0), Due.NONE);
        DUE.is("shelf 6", x.down(6, Due.yc(0, 5), 0), Due.NONE);
        DUE.is("an empty shelf", x.down(1, Due.yc(0, 5), 0), Due.NONE);
        Due.seen(x, 1, 0, 1);
        DUE.is("shorts", x.down(1, Due.yc(0, 5), 0), Due.NONE);
    }

    private static void orders() {
        OutByTurns x = with("0", 1, 2, 3, 4, 5, 6, 7);
        int yc = Due.yc(0, 20);
        x.mend(0, 5, 999);
        x.mend(0, 4, -999);
        Due.order(x, 0, 6, 5, 4, 3, 2, 1, 0);
        x.mend(0, 7, 1);
        DUE.is("all seven", x.drop(0, yc, 0), 7);
        Due.order(x, 0, 6, 5, 4, 6, 3);
        DUE.is("one that came before ends it", x.drop(0, yc, 0), 3);
        Due.order(x, 0, 6, 5, 7, 4);
        DUE.is("one that is none ends it", x.drop(0, yc, 0), 2);
        Due.order(x, 0, -1, 5);
        DUE.is("-1 ends it", x.drop(0, yc, 0), 0);
        Due.order(x, 0, 256, 1, 2);
        DUE.is("its lowest bits count", x.drop(0, yc, 0), 3);
        Due.order(x, 0);
        DUE.is("an order of nobody", x.drop(0, yc, 2), 0);
        x.row(0, 0, 60);
        DUE.is("sixty times 0", x.drop(0, yc, 0), 1);
        x.put(0, 1, 1);
        DUE.is("0, 1 and 0", x.drop(0, yc, 0), 2);
    }

    private static void wellOnTheField() {
        OutByTurns x = with("0", 1);
        Due.order(x, 0, 0);
        x.mend(0, 4, -20);
        x.mend(0, 5, 30);
        DUE.is("below FROM", x.drop(0, Due.yc(-21, 1), 0), 0);
        DUE.is("at FROM", x.drop(0, Due.yc(-20, 1), 0), 1);
        DUE.is("at TO", x.drop(0, Due.yc(30, 1), 0), 1);
        DUE.is("above TO", x.drop(0, Due.yc(31, 1), 0), 0);
        DUE.is("GOOD at TO", x.drop(0, Due.yc(30, 1), 2), 1);
        DUE.is("GOOD above TO", x.drop(0, Due.yc(31, 1), 2), 0);
    }

    private static void wellBesideTheWire() {
        OutByTurns x = with("0", 1);
        Due.order(x, 0, 0);
        x.mend(0, 6, 50);
        int[] yards = {44, 45, 50, 55, 56};
        int[] due = {1, 0, 0, 0, 1};
        for (int i = 0; i < yards.length; i++) {
            DUE.is("beside the wire at " + yards[i], x.drop(0, Due.yc(yards[i], 1), 0), due[i]);
            DUE.is("GOOD at " + yards[i], x.drop(0, Due.yc(yards[i], 1), 2), due[i]);
        }
        x.mend(0, 6, OutByTurns.VOID);
        DUE.is("no wire", x.drop(0, Due.yc(50, 1), 0), 1);
    }

    private static void meet() {
        OutByTurns x = with("s*7", 0, 2);
        x.mend(0, 7, 1);
        Due.order(x, 0, 1, 0);
        DUE.is("10 yards, 4 seconds", x.drop(0, Due.yc(0, 4), 1), 2);
        DUE.is("9 yards, 5 seconds", x.drop(0, Due.yc(0, 5), 1), 0);
        DUE.is("11 yards, 3 seconds", x.drop(0, Due.yc(0, 3), 1), 0);
        DUE.is("nobody GOOD who MEETS", x.drop(0, Due.yc(0, 4), 2), 0);
        DUE.is("though WELL", x.drop(0, Due.yc(0, 4), 0), 2);
        Due.order(x, 0, 0, 1);
        DUE.is("18 yards, 4 seconds", x.drop(0, Due.yc(0, 4), 1), 0);

        OutByTurns y = with("s*10", 0, 5, 9);
        Due.order(y, 0, 2, 1, 0);
        DUE.is("the middle one meets both", y.drop(0, Due.yc(0, 4), 1), 3);
        DUE.is("5 seconds between", y.drop(0, Due.yc(0, 5), 1), 0);
        Due.order(y, 0, 0, 2, 1);
        DUE.is("two of three", y.drop(0, Due.yc(0, 4), 1), 2);
        DUE.is("the third is GOOD", y.drop(0, Due.yc(0, 4), 2), 1);

        OutByTurns z = with("s*10", 4, 8, 0);
        Due.order(z, 0, 0, 1, 2);
        DUE.is("not next to one another", z.drop(0, Due.yc(0, 2), 1), 2);
        DUE.is("not next, 6 seconds", z.drop(0, Due.yc(0, 3), 1), 0);
    }

    private static void good() {
        OutByTurns x = with("s*10", 0, 5, 9);
        Due.order(x, 0, 0, 1, 2);
        DUE.is("all", x.drop(0, Due.yc(0, 5), 2), 3);
        DUE.is("two off the field", x.drop(0, Due.yc(201, 5), 2), 1);
        DUE.is("two off it, WELL", x.drop(0, Due.yc(201, 5), 0), 1);
        x.mend(0, 6, 195);
        DUE.is("one in the wire", x.drop(0, Due.yc(0, 5), 2), 2);
    }

    private static void spotFor() {
        OutByTurns x = with("0", 1, 2);
        Due.order(x, 0, 0, 1);
        x.mend(0, 4, 20);
        x.mend(0, 5, 80);
        spot("50 yards apart on 20 to 80", x, 5, 20, 2);
        spot("70 yards apart, the second alone", x, 7, 0, 1);
        x.mend(0, 4, -50);
        x.mend(0, 5, -20);
        spot("20 yards apart on -50 to -20", x, 2, -40, 2);
        spot("50 yards apart, the first alone", x, 5, -20, 1);
        spot("10 yards apart they meet everywhere", x, 1, 0, 0);
        x.mend(0, 5, 0);
        spot("50 yards apart on -50 to 0", x, 5, -50, 2);
        x.mend(0, 11, 1);
        spot("50 yards apart, against", x, 5, 0, 2);
        x.mend(0, 6, 0);
        x.mend(0, 5, 90);
        Due.order(x, 0, 1);
        spot("both sides of the wire alike", x, 1, -6, 1);
        x.mend(0, 4, -5);
        spot("the side that is left", x, 1, 6, 1);
        x.mend(0, 5, 5);
        spot("nowhere", x, 1, 0, 0);
        spotAtTheEnds();
    }

    private static void spotAtTheEnds() {
        OutByTurns x = with("500-s", 0);
        Due.order(x, 0, 0);
        x.mend(0, 4, -499);
        x.mend(0, 5, -499);
        spot("the least yard", x, 20, -999, 1);
        x.mend(0, 4, -500);
        x.mend(0, 5, -500);
        spot("one yard less", x, 1, 0, 0);
        x.mend(0, 5, 999);
        x.mend(0, 4, 999);
        spot("down at 999", x, 1, 499, 1);
        Due.law(x, "-500");
        x.mend(0, 4, 499);
        x.mend(0, 5, 499);
        spot("the most yard", x, 1, 999, 1);
        x.mend(0, 5, 500);
        x.mend(0, 4, 500);
        spot("one yard more", x, 1, 0, 0);
        DUE.is("spotFor by 0", x.spotFor(0, 0, 0), Due.NONE);
        DUE.is("spotFor by 21", x.spotFor(0, 21, 0), Due.NONE);
        DUE.is("spotFor what -1", x.spotFor(0, 1, -1), Due.NONE);
        DUE.is("spotFor what 2", x.spotFor(0, 1, 2), Due.NONE);
    }

    private static void spot(String what, OutByTurns x, int count, int yard, int many) {
        DUE.is(what + ", from", x.spotFor(0, count, 1), yard);
        DUE.is(what + ", how many", x.spotFor(0, count, 0), many);
    }

    private static void countFor() {
        OutByTurns x = with("0", 1, 2, 3);
        Due.order(x, 0, 0, 1, 2);
        count("they meet by 1", x, 0, 2, 3);
        count("two fit in behind 280", x, 280, 2, 2);
        count("the second by 20 only", x, -299, 20, 2);
        count("none reaches the field", x, -999, 1, 0);
        x.mend(0, 11, 1);
        count("against, the third by 20", x, 690, 20, 1);
        count("against, at TO", x, 700, 20, 1);
        count("against, above TO", x, 701, 1, 0);
        DUE.is("countFor from -1000", x.countFor(0, -1000, 0), OutByTurns.BAD);
        DUE.is("countFor from 1000", x.countFor(0, 1000, 0), OutByTurns.BAD);
        DUE.is("countFor what -1", x.countFor(0, 0, -1), OutByTurns.BAD);
        DUE.is("countFor what 2", x.countFor(0, 0, 2), OutByTurns.BAD);
        DUE.is("countFor what 2, nothing there", x.countFor(1, 0, 2), OutByTurns.BAD);
    }

    private static void count(String what, OutByTurns x, int spot, int count, int many) {
        DUE.is(what + ", by", x.countFor(0, spot, 0), count);
        DUE.is(what + ", how many", x.countFor(0, spot, 1), many);
    }

    private static void orderFor() {
        OutByTurns x = with("s*10", 0, 5, 9);
        int yc = Due.yc(0, 4);
        inOrder("of 012, 120, 201 with two each the first", x, Due.yc(1, 4), 3, 0, 1, 2);
        x.mend(0, 5, 85);
        inOrder("120 alone has two", x, yc, 2, 1, 2, 0);
        x.mend(0, 5, 100);
        inOrder("012, 120, 201 have two", x, yc, 2, 0, 1, 2);
        x.mend(0, 4, 10);
        inOrder("120 and 201 have two", x, yc, 2, 1, 2, 0);
        x.mend(0, 5, 300);
        x.mend(0, 11, 1);
        inOrder("against, 012 meet", x, Due.yc(200, 4), 3, 0, 2, 1);
        DUE.is("k 3 of three", x.orderFor(yc, 3), OutByTurns.NOT);
        DUE.is("k far behind", x.orderFor(yc, Integer.MAX_VALUE), OutByTurns.NOT);
        DUE.is("k -2", x.orderFor(yc, -2), OutByTurns.BAD);
        DUE.is("a wrong count", x.orderFor(Due.yc(0, 0), -1), OutByTurns.BAD);
        DUE.is("a wrong yard", x.orderFor(Due.yc(1000, 1), -1), OutByTurns.BAD);
        DUE.is("both below 0", x.orderFor(-5, -1), OutByTurns.BAD);
    }

    private static void inOrder(String what, OutByTurns x, int yc, int many, int... jumpers) {
        DUE.is(what + ", how many", x.orderFor(yc, -1), many);
        for (int k = 0; k < jumpers.length; k++) {
            DUE.is(what + ", the one at " + k, x.orderFor(yc, k), jumpers[k]);
        }
    }

    private static void orderForHowMany() {
        OutByTurns x = new OutByTurns();
        DUE.is("nobody", x.orderFor(Due.yc(0, 5), -1), 0);
        DUE.is("nobody's first", x.orderFor(Due.yc(0, 5), 0), OutByTurns.NOT);
        OutByTurns y = with("0", 1, 1, 1, 1, 1);
        inOrder("five", y, Due.yc(0, 4), 5, 0, 1, 2, 3, 4);
        y.jumper(5, 3);
        DUE.is("six", y.orderFor(Due.yc(0, 4), -1), OutByTurns.STATE);
        DUE.is("six, k behind all", y.orderFor(Due.yc(0, 4), 6), OutByTurns.STATE);
        DUE.is("six, k -2", y.orderFor(Due.yc(0, 4), -2), OutByTurns.BAD);
        DUE.is("six, a wrong count", y.orderFor(Due.yc(0, 21), 0), OutByTurns.BAD);
    }

    private static void pass() {
        OutByTurns x = with("0", 1, 1, 1, 1);
        Due.order(x, 0, 0, 1, 2, 3);
        x.mend(0, 4, 0);
        x.mend(0, 5, 100);
        passes("50 yards apart", x, 5, 3, 2);
        passes("20 yards apart", x, 2, 4, 1);
        passes("10 yards apart they meet", x, 1, 1, 4);
        passes("100 yards apart", x, 10, 2, 2);
        passes("110 yards apart", x, 11, 1, 4);
        x.mend(0, 5, 290);
        x.mend(0, 4, 290);
        passes("a field of one yard", x, 20, 1, 4);
        x.mend(0, 6, 295);
        passes("the wire over the field", x, 20, 0, OutByTurns.NOT);
        x.mend(0, 6, 296);
        passes("the wire beside it", x, 20, 1, 4);
        Due.order(x, 0);
        passes("nobody", x, 20, 0, 0);
        OutByTurns y = with("s*500", 0, 1);
        Due.order(y, 0, 0, 1);
        y.mend(0, 4, -999);
        y.mend(0, 5, -600);
        passes("the second cannot alone", y, 5, 1, OutByTurns.NOT);
        DUE.is("pass by 0", y.pass(0, 0, 0), OutByTurns.BAD);
        DUE.is("pass by 21", y.pass(0, 21, 0), OutByTurns.BAD);
        DUE.is("pass what -1", y.pass(0, 1, -1), OutByTurns.BAD);
        DUE.is("pass what 2", y.pass(1, 1, 2), OutByTurns.BAD);
    }

    private static void passes(String what, OutByTurns x, int count, int inOne, int all) {
        DUE.is(what + ", in one pass", x.pass(0, count, 0), inOne);
        DUE.is(what + ", passes", x.pass(0, count, 1), all);
    }

    private static void runIn() {
        OutByTurns x = with("s*10", 0, 5);
        x.mend(0, 4, 0);
        x.mend(0, 5, 20);
        for (int way = 0; way <= 1; way++) {
            x.mend(0, 11, way);
            Due.order(x, 0, 0, 1);
            DUE.is("both on one spot if against, run in " + way, x.runIn(0, 5), 1);
            Due.order(x, 0, 1, 0);
            DUE.is("both on one spot if upward, run in " + way, x.runIn(0, 5), 0);
            DUE.is("one, either way, run in " + way, x.runIn(0, 20), 0);
            Due.order(x, 0);
            DUE.is("nobody, run in " + way, x.runIn(0, 5), 0);
            DUE.is("the run in is as it was", x.of(0, 11), way);
        }
        DUE.is("runIn by 0", x.runIn(0, 0), OutByTurns.BAD);
        DUE.is("runIn by 21", x.runIn(1, 21), OutByTurns.BAD);
    }

    private static void room() {
        OutByTurns x = with("0", 1, 1, 1);
        Due.order(x, 0, 0, 1, 2);
        DUE.is("10 yards a second", x.room(0), 2);
        x.mend(0, 7, 11);
        DUE.is("11 yards a second", x.room(0), 1);
        x.mend(0, 7, 3);
        DUE.is("3 yards a second", x.room(0), 4);
        x.mend(0, 7, 2);
        DUE.is("2 yards a second", x.room(0), 5);
        Due.order(x, 0, 2);
        DUE.is("one", x.room(0), 1);
        Due.order(x, 0);
        DUE.is("nobody", x.room(0), 1);
        OutByTurns y = with("s*5", 0, 8);
        y.mend(0, 7, 30);
        Due.order(y, 0, 0, 1);
        DUE.is("farther and farther apart", y.room(0), 1);
        y.mend(0, 11, 1);
        DUE.is("against", y.room(0), 2);
        y.mend(0, 4, -999);
        y.mend(0, 5, -999);
        DUE.is("off the field they MEET, too", y.room(0), 2);
    }

    private static void last() {
        OutByTurns x = with("s*10", 0, 5, 9);
        Due.order(x, 0, 0, 1, 2);
        DUE.is("100 yards on from 0", x.last(0, Due.yc(0, 5)), 0);
        DUE.is("from -50", x.last(0, Due.yc(-50, 5)), 1);
        DUE.is("from -70 two are as near", x.last(0, Due.yc(-70, 5)), 1);
        DUE.is("from -71", x.last(0, Due.yc(-71, 5)), 2);
        Due.order(x, 0, 2, 1, 0);
        DUE.is("in another order", x.last(0, Due.yc(-70, 5)), 1);
        Due.order(x, 0, 2, 0);
        DUE.is("of two", x.last(0, Due.yc(-40, 5)), 2);
        x.mend(0, 11, 1);
        DUE.is("of two, against", x.last(0, Due.yc(140, 5)), 0);
        Due.order(x, 0);
        DUE.is("nobody", x.last(0, Due.yc(0, 5)), OutByTurns.NOT);
        OutByTurns y = with("s", 0, 1);
        y.mend(0, 4, -100);
        y.mend(0, 5, 99);
        Due.order(y, 0, 1, 0);
        DUE.is("the middle is cut toward 0", y.last(0, Due.yc(-11, 1)), 1);
        DUE.is("last by 0", y.last(0, Due.yc(0, 0)), OutByTurns.BAD);
        DUE.is("last from 1000", y.last(1, Due.yc(1000, 1)), OutByTurns.BAD);
        DUE.is("last below 0", y.last(0, -99), OutByTurns.BAD);
    }

    private static void wrongShelves() {
        OutByTurns x = with("0", 1);
        Due.oddShelves(x);
        int yc = Due.yc(0, 5);
        DUE.wants("down", 0, shelf -> x.down(shelf, yc, 0), Due.NONE, Due.NONE, Due.NONE);
        DUE.wants("drop", 0, shelf -> x.drop(shelf, yc, 0), OutByTurns.BAD, -11, -12);
        DUE.wants("spotFor", 0, shelf -> x.spotFor(shelf, 5, 0), Due.NONE, Due.NONE, Due.NONE);
        DUE.wants("countFor", 0, shelf -> x.countFor(shelf, 0, 0), OutByTurns.BAD, -11, -12);
        DUE.wants("pass", 0, shelf -> x.pass(shelf, 5, 0), OutByTurns.BAD, -11, -12);
        DUE.wants("runIn", 0, shelf -> x.runIn(shelf, 5), OutByTurns.BAD, -11, -12);
        DUE.wants("room", 0, shelf -> x.room(shelf), OutByTurns.BAD, -11, -12);
        DUE.wants("last", 0, shelf -> x.last(shelf, yc), OutByTurns.BAD, -11, -12);
    }

    private static void wrongNumbers() {
        OutByTurns x = with("0", 1);
        Due.oddShelves(x);
        int[] wrong = {-1, -100, 100, 99900, 99921, 199900, 199821, 199901, Integer.MIN_VALUE, Integer.MAX_VALUE};
        for (int yc : wrong) {
            for (int shelf = 1; shelf <= 5; shelf++) {
                DUE.is("drop by yc " + yc, x.drop(shelf, yc, 0), OutByTurns.BAD);
                DUE.is("down by yc " + yc, x.down(shelf, yc, 0), Due.NONE);
                DUE.is("last by yc " + yc, x.last(shelf, yc), OutByTurns.BAD);
            }
        }
        DUE.is("the least yc", x.drop(5, 1, 0), 0);
        DUE.is("the most yc", x.drop(5, 199820, 0), 0);
        DUE.is("drop what -1", x.drop(5, 99901, -1), OutByTurns.BAD);
        DUE.is("drop what 3", x.drop(5, 99901, 3), OutByTurns.BAD);
        DUE.is("drop what 3, nothing there", x.drop(1, 99901, 3), OutByTurns.BAD);
    }
}
