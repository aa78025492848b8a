/** Promises 1 to 5: a new object, jumpers, their numbers and the field's. */
public final class JumpersTest {
    private static final Due DUE = new Due("JumpersTest");

    public static void main(String[] args) {
        newObject();
        jumper();
        jumpersFromARow();
        jumpersFromWrongRows();
        numbersAtTheirEdges();
        fieldAtItsEdges();
        wrongNumbers();
        DUE.end();
    }

    private static void newObject() {
        OutByTurns x = new OutByTurns();
        int[] first = {-99, 300, OutByTurns.VOID, 36, 0, 0, 9, 0};
        for (int what = 4; what <= 11; what++) {
            DUE.is("new, of(0, " + what + ")", x.of(0, what), first[what - 4]);
        }
        for (int what = 0; what <= 4; what++) {
            DUE.is("new, count(" + what + ")", x.count(what), 0);
        }
        DUE.is("new, led(5)", x.led(5), OutByTurns.VOID);
        DUE.is("new, over()", x.over(), OutByTurns.STATE);
        DUE.is("new, trace(0)", x.trace(0), OutByTurns.BAD);
        for (int shelf = 0; shelf <= 5; shelf++) {
            DUE.is("new, put(" + shelf + ", 0, 0)", x.put(shelf, 0, 0), -11);
        }
    }

    private static void jumper() {
        OutByTurns x = new OutByTurns();
        DUE.is("jumper(1, 0)", x.jumper(1, 0), 0);
        DUE.is("jumper(9, 9)", x.jumper(9, 9), 1);
        DUE.is("weight of 0", x.of(0, 0), 1);
        DUE.is("skill of 0", x.of(0, 1), 0);
        DUE.is("weight of 1", x.of(1, 0), 9);
        DUE.is("skill of 1", x.of(1, 1), 9);
        DUE.is("square of 1", x.of(1, 2), 0);
        DUE.is("sticks of 1", x.of(1, 3), 0);
        DUE.is("jumper(0, 3)", x.jumper(0, 3), OutByTurns.BAD);
        DUE.is("jumper(10, 3)", x.jumper(10, 3), OutByTurns.BAD);
        DUE.is("jumper(5, -1)", x.jumper(5, -1), OutByTurns.BAD);
        DUE.is("jumper(5, 10)", x.jumper(5, 10), OutByTurns.BAD);
        DUE.is("two jumpers", x.count(0), 2);
        DUE.is("no changes by jumper()", x.count(2), 0);
        for (int number = 2; number <= 6; number++) {
            DUE.is("jumper(5, 3)", x.jumper(5, 3), number);
        }
        DUE.is("an eighth", x.jumper(5, 3), OutByTurns.FULL);
        DUE.is("a wrong eighth", x.jumper(0, 3), OutByTurns.BAD);
        DUE.is("seven jumpers", x.count(0), 7);
    }

    private static void jumpersFromARow() {
        OutByTurns x = new OutByTurns();
        Due.order(x, 2, 99, 1, 0, 1, 9, 9, 0, 4, 5, 1, 7, 7);
        DUE.is("jumpers(2, 1, 2)", x.jumpers(2, 1, 2), 2);
        int[] due = {1, 0, 1, 0, 9, 9, 0, 0};
        for (int i = 0; i < due.length; i++) {
            DUE.is("from the row, of(" + i / 4 + ", " + i % 4 + ")", x.of(i / 4, i % 4), due[i]);
        }
        DUE.is("the row ends within a three", x.jumpers(2, 7, 5), 1);
        DUE.is("the three that ends the row", x.jumpers(2, 8, 1), 0);
        DUE.is("behind the row's end", x.jumpers(2, 12, 1), 0);
        DUE.is("far behind it", x.jumpers(2, Integer.MAX_VALUE, 7), 0);
        DUE.is("all three", x.count(0), 3);
        int[] belowZero = {-1, -2, -3, -6, Integer.MIN_VALUE};
        for (int place : belowZero) {
            DUE.is("from place " + place + " on", x.jumpers(2, place, 7), 0);
            DUE.is("from place " + place + " of a missing row", x.jumpers(1, place, 7), 0);
        }
        DUE.is("nobody came from below the row", x.count(0), 3);
        OutByTurns y = new OutByTurns();
        Due.order(y, 0, 1, 2, 0, 3, 4, 1);
        DUE.is("the row ends behind a three", y.jumpers(0, 0, 7), 2);
        DUE.is("the last one's skill", y.of(1, 1), 4);
        Due.order(x, 3, 5, 3, 0, 5, 3, 1, 5, 3, 0, 5, 3, 0, 5, 3, 0);
        DUE.is("until they are FULL", x.jumpers(3, 0, 7), 4);
        DUE.is("seven of them", x.count(0), 7);
        DUE.is("the sixth's square", x.of(4, 2), 1);
        DUE.is("FULL already", x.jumpers(3, 0, 1), 0);
        DUE.is("no changes by jumpers()", x.count(2), 0);
    }

    private static void jumpersFromWrongRows() {
        OutByTurns x = new OutByTurns();
        DUE.is("the row is missing", x.jumpers(0, 0, 1), 0);
        DUE.is("jumpers(-1, 0, 1)", x.jumpers(-1, 0, 1), OutByTurns.BAD);
        DUE.is("jumpers(6, 0, 1)", x.jumpers(6, 0, 1), OutByTurns.BAD);
        DUE.is("jumpers(0, 0, 0)", x.jumpers(0, 0, 0), OutByTurns.BAD);
        DUE.is("jumpers(0, 0, 8)", x.jumpers(0, 0, 8), OutByTurns.BAD);
        DUE.is("jumpers(0, -1, 8)", x.jumpers(0, -1, 8), OutByTurns.BAD);
        for (int sort = 1; sort <= 4; sort++) {
            x.row(0, sort, 6);
            DUE.is("a row of sort " + sort, x.jumpers(0, 0, 1), -12);
            DUE.is("a row of sort " + sort + ", below it", x.jumpers(0, -1, 1), -12);
        }
        x.body(0);
        x.keep(0, 0);
        DUE.is("a body", x.jumpers(0, 0, 1), -12);
        DUE.is("a body, and n is wrong", x.jumpers(0, 0, 8), OutByTurns.BAD);
        long[][] wrong = {{0, 3, 0}, {10, 3, 0}, {5, -1, 0}, {5, 10, 0}, {5, 3, -1}, {5, 3, 2}};
        for (long[] three : wrong) {
            Due.order(x, 1, 5, 3, 1, three[0], three[1], three[2], 5, 3, 1);
            int there = x.count(0);
            DUE.is("one is not so", x.jumpers(1, 0, 3), 1);
            DUE.is("that ahead came", x.count(0), there + 1);
        }
    }

    private static void numbersAtTheirEdges() {
        OutByTurns x = new OutByTurns();
        x.jumper(5, 3);
        x.jumper(6, 4);
        int[] least = {1, 0, 0, 0};
        int[] most = {9, 9, 1, 12};
        int[] first = {6, 4, 0, 0};
        for (int what = 0; what <= 3; what++) {
            String told = "mend(1, " + what + ", ";
            DUE.is(told + "least)", x.mend(1, what, least[what]), first[what]);
            DUE.is(told + "most)", x.mend(1, what, most[what]), least[what]);
            DUE.is(told + "least - 1)", x.mend(1, what, least[what] - 1), -3000);
            DUE.is(told + "most + 1)", x.mend(1, what, most[what] + 1), -3000);
            DUE.is("of(1, " + what + ")", x.of(1, what), most[what]);
        }
        DUE.is("the other's weight", x.of(0, 0), 5);
        DUE.is("the other's skill", x.of(0, 1), 3);
    }

    private static void fieldAtItsEdges() {
        OutByTurns x = new OutByTurns();
        int[] least = {-999, -99, -999, 1, -30, -30, 1, 0};
        int[] most = {300, 999, 999, 99, 30, 30, 9, 1};
        for (int what = 4; what <= 11; what++) {
            int low = least[what - 4];
            int high = most[what - 4];
            int was = x.of(0, what);
            String told = "mend(0, " + what + ", ";
            DUE.is(told + "least)", x.mend(0, what, low), was);
            DUE.is(told + "most)", x.mend(0, what, high), low);
            DUE.is(told + "least - 1)", x.mend(0, what, low - 1), -3000);
            DUE.is(told + "most + 1)", x.mend(0, what, high + 1), -3000);
            DUE.is("of(0, " + what + ")", x.of(0, what), high);
            x.mend(0, what, was);
        }
        DUE.is("FROM down", x.mend(0, 4, -999), -99);
        DUE.is("TO as FROM", x.mend(0, 5, -999), 300);
        DUE.is("TO below FROM's least", x.mend(0, 5, -1000), -3000);
        DUE.is("TO up", x.mend(0, 5, 999), -999);
        DUE.is("FROM as TO", x.mend(0, 4, 999), -999);
        DUE.is("FROM above all", x.mend(0, 4, 1000), -3000);
        DUE.is("TO under FROM", x.mend(0, 5, 998), -3000);
        DUE.is("a wire", x.mend(0, 6, 7), OutByTurns.VOID);
        DUE.is("no wire", x.mend(0, 6, OutByTurns.VOID), 7);
        DUE.is("none again", x.mend(0, 6, OutByTurns.VOID), OutByTurns.VOID);
        DUE.is("VOID is no speed", x.mend(0, 7, OutByTurns.VOID), -3000);
    }

    private static void wrongNumbers() {
        OutByTurns x = new OutByTurns();
        DUE.is("of nobody", x.of(0, 0), -3000);
        DUE.is("mend nobody", x.mend(0, 3, 1), -3000);
        x.jumper(5, 3);
        DUE.is("of(0, -1)", x.of(0, -1), -3000);
        DUE.is("of(0, 12)", x.of(0, 12), -3000);
        DUE.is("of(-1, 0)", x.of(-1, 0), -3000);
        DUE.is("of(1, 0)", x.of(1, 0), -3000);
        DUE.is("of(1, 4)", x.of(1, 4), -3000);
        DUE.is("of(-1, 11)", x.of(-1, 11), -3000);
        DUE.is("mend(0, -1, 1)", x.mend(0, -1, 1), -3000);
        DUE.is("mend(0, 12, 1)", x.mend(0, 12, 1), -3000);
        DUE.is("mend(1, 0, 1)", x.mend(1, 0, 1), -3000);
        DUE.is("mend(1, 4, 1)", x.mend(1, 4, 1), -3000);
        DUE.is("no changes by these", x.count(2), 0);
    }
}
