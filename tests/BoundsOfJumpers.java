/** The line, the field, jumpers and winds: part 1 but for the law, JUMPERS FROM A ROW, promises 1 to 5. */
final class BoundsOfJumpers {
    private static final int WRONG = -3000;

    private final Says says;

    private BoundsOfJumpers(Says says) {
        this.says = says;
    }

    static void ask(Says says) {
        BoundsOfJumpers bounds = new BoundsOfJumpers(says);
        bounds.newObject();
        bounds.yards();
        bounds.field();
        bounds.wire();
        bounds.numberOfJumpers();
        bounds.numbersOfJumpers();
        bounds.aeroplaneAndWinds();
        bounds.jumper();
        bounds.jumpers();
        bounds.mend();
        bounds.of();
    }

    private void newObject() {
        OutByTurns x = new OutByTurns();
        says.promise(1, "A field, nobody in the air.");
        says.is("FROM", x.of(0, 4), -99);
        says.is("TO", x.of(0, 5), 300);
        says.is("JUMPERS", x.count(0), 0);
        says.is("NOW", x.led(5), OutByTurns.VOID);
        says.is("over()", x.over(), OutByTurns.STATE);
    }

    private void yards() {
        OutByTurns x = Due.three();
        Due.order(x, 0, 0);
        says.part(1, "YARDS -999 .. 999 along which it flies");
        says.is("begin(-1000)", x.begin(-1000), OutByTurns.VOID);
        says.is("begin(1000)", x.begin(1000), OutByTurns.VOID);
        says.is("begin(-999)", x.begin(-999), -999);
        says.is("over()", x.over(), 0);
        says.is("begin(999)", x.begin(999), 999);
        says.is("over()", x.over(), 0);
        says.is("countFor from -1000", x.countFor(0, -1000, 0), OutByTurns.BAD);
        says.is("countFor from -999", x.countFor(0, -999, 0), 1);
        says.is("countFor from 999", x.countFor(0, 999, 0), 1);
        says.is("countFor from 1000", x.countFor(0, 1000, 0), OutByTurns.BAD);
        says.part(1, "(run in 0: upward; 1: against, downward)");
        x.begin(0);
        says.is("upward", x.go(0, 1), 10);
        x.mend(0, 11, 1);
        says.is("downward", x.go(1, 3), -20 + 50);
    }

    /** Of a number (of jumper 0 or of the field) just its bounds and what stands between can be told. */
    private void bounds(OutByTurns x, int what, int least, int most, int first) {
        says.is("at first", x.of(0, what), first);
        says.is("below the least", x.mend(0, what, least - 1), WRONG);
        says.is("above the most", x.mend(0, what, most + 1), WRONG);
        says.is("far below", x.mend(0, what, Integer.MIN_VALUE), WRONG);
        says.is("far above", x.mend(0, what, Integer.MAX_VALUE), WRONG);
        says.is("the least", x.mend(0, what, least), first);
        says.is("the most", x.mend(0, what, most), least);
        says.is("told", x.of(0, what), most);
    }

    private void field() {
        OutByTurns x = new OutByTurns();
        says.part(1, "from FROM to TO (-99 and 300 at first; -999 .. 999; FROM no more than TO)");
        says.is("FROM above TO", x.mend(0, 4, 301), WRONG);
        says.is("TO below FROM", x.mend(0, 5, -100), WRONG);
        says.is("FROM at TO", x.mend(0, 4, 300), -99);
        says.is("TO at FROM", x.mend(0, 5, 300), 300);
        says.is("one below it", x.mend(0, 5, 299), WRONG);
        says.is("FROM one above it", x.mend(0, 4, 301), WRONG);
        bounds(new OutByTurns(), 4, -999, 300, -99);
        bounds(new OutByTurns(), 5, -99, 999, 300);
        says.is("TO to the end", x.mend(0, 5, 999), 300);
        says.is("FROM to the end", x.mend(0, 4, 999), 300);
        says.is("FROM over the end", x.mend(0, 4, 1000), WRONG);
        says.is("FROM to the other end", x.mend(0, 4, -999), 999);
        says.is("TO to the other end", x.mend(0, 5, -999), 999);
        says.is("TO over the other end", x.mend(0, 5, -1000), WRONG);
    }

    private void wire() {
        OutByTurns x = Due.three();
        Due.order(x, 0, 0);
        says.part(1, "WIRE: a YARD (-999 .. 999; VOID: none, as at first), 5 yards either way");
        bounds(x, 6, -999, 999, OutByTurns.VOID);
        says.is("none", x.mend(0, 6, OutByTurns.VOID), 999);
        says.is("beside VOID", x.mend(0, 6, OutByTurns.VOID + 1), WRONG);
        says.is("on the other side", x.mend(0, 6, OutByTurns.VOID - 1), WRONG);
        says.is("VOID is no HEIGHT", x.mend(0, 10, OutByTurns.VOID), WRONG);
        x.mend(0, 6, 100);
        int[] yards = {94, 95, 100, 105, 106};
        int[] well = {1, 0, 0, 0, 1};
        for (int i = 0; i < yards.length; i++) {
            says.is("WELL at " + yards[i], x.drop(0, Due.yc(yards[i], 1), 0), well[i]);
        }
    }

    private void numberOfJumpers() {
        OutByTurns x = new OutByTurns();
        says.part(1, "JUMPERS 0 .. 6, as they come");
        for (int number = 0; number <= 6; number++) {
            says.is("not there yet", x.carried(number), OutByTurns.VOID);
            says.is("it comes", x.jumper(number + 1, 3), number);
            says.is("its WEIGHT", x.of(number, 0), number + 1);
        }
        says.is("an eighth", x.jumper(5, 3), OutByTurns.FULL);
        says.is("none below 0", x.carried(-1), OutByTurns.VOID);
        says.is("none above 6", x.carried(7), OutByTurns.VOID);
    }

    private void numbersOfJumpers() {
        OutByTurns x = new OutByTurns();
        // WEIGHT and SKILL are told as a JUMPER comes: what they would be at first is never seen.
        x.jumper(5, 3);
        says.part(1, "WEIGHT (1 .. 9; 5 at first)");
        bounds(x, 0, 1, 9, 5);
        says.part(1, "SKILL (0 .. 9; 3 at first)");
        bounds(x, 1, 0, 9, 3);
        says.part(1, "SQUARE (0, 1; 0 at first: what silk)");
        bounds(x, 2, 0, 1, 0);
        says.part(1, "STICKS (0 .. 12; 0 at first: in so many of twelve one stops in the door)");
        bounds(x, 3, 0, 12, 0);
        Due.order(x, 0, 0);
        says.is("always", x.sure(0, 0), 0);
        x.mend(0, 3, 0);
        says.is("never", x.sure(0, 0), 1);
        x.mend(0, 3, 1);
        says.is("in one of twelve", x.sure(0, 0), 11);
        says.is("of twelve", x.sure(0, 1), 12);
    }

    private void aeroplaneAndWinds() {
        OutByTurns x = new OutByTurns();
        says.part(1, "SPEED (1 .. 99 yards a second; 36 at first)");
        bounds(x, 7, 1, 99, 36);
        says.part(1, "ABOVE, BELOW (-30 .. 30 yards a second by wind; 0 at first)");
        bounds(x, 8, -30, 30, 0);
        bounds(x, 9, -30, 30, 0);
        says.part(1, "HEIGHT (1 .. 9 hundred yards; 9 at first)");
        bounds(x, 10, 1, 9, 9);
    }

    private void jumper() {
        OutByTurns x = new OutByTurns();
        says.promise(2, "its number. BAD, FULL: 7.");
        int[][] wrong = {{0, 3}, {10, 3}, {5, -1}, {5, 10}, {Integer.MIN_VALUE, 3}, {5, Integer.MAX_VALUE}};
        for (int number = 0; number < 7; number++) {
            says.is("the least of both, the most of both", number % 2 == 0 ? x.jumper(1, 0) : x.jumper(9, 9), number);
            for (int[] call : wrong) {
                says.is("jumper(" + call[0] + ", " + call[1] + ")", x.jumper(call[0], call[1]), OutByTurns.BAD);
            }
            says.is("how many", x.count(0), number + 1);
        }
        says.is("when there are 7", x.jumper(1, 0), OutByTurns.FULL);
        says.is("BAD ahead of FULL", x.jumper(0, 0), OutByTurns.BAD);
        says.is("still 7", x.count(0), 7);
    }

    private void jumpers() {
        OutByTurns x = new OutByTurns();
        x.body(0);
        Due.row(x, 0, 0, 1, 2, 0, 3, 4, 1, 5, 6);
        says.promise(3, "from place i on, n (1 .. 7) of them: how many came.");
        says.is("n 0", x.jumpers(0, 0, 0), OutByTurns.BAD);
        says.is("n 8", x.jumpers(0, 0, 8), OutByTurns.BAD);
        says.is("n -1", x.jumpers(0, 0, -1), OutByTurns.BAD);
        says.is("one of two", x.jumpers(0, 0, 1), 1);
        says.is("it alone came", x.count(0), 1);
        says.is("from a place within", x.jumpers(0, 3, 1), 1);
        says.is("its SKILL", x.of(1, 1), 4);
        says.promise(3, "BAD, -12 (no ROW of bytes; a SHELF that holds nothing is missing).");
        says.is("SHELF -1", x.jumpers(-1, 0, 1), OutByTurns.BAD);
        says.is("SHELF 6", x.jumpers(6, 0, 1), OutByTurns.BAD);
        for (int sort = 1; sort <= 4; sort++) {
            x.row(1, sort, 3);
            says.is("a ROW of sort " + sort, x.jumpers(1, 0, 1), -12);
        }
        x.keep(1, 0);
        says.is("a BODY", x.jumpers(1, 0, 1), -12);
        says.is("BAD ahead of -12", x.jumpers(1, 0, 0), OutByTurns.BAD);
        x.keep(1, -1);
        says.is("nothing", x.jumpers(1, 0, 1), 0);
        fromARow();
    }

    private void fromARow() {
        OutByTurns x = new OutByTurns();
        says.part(5, "by threes WEIGHT, SKILL, SQUARE: n of them; it ends where the row is missing, ends"
            + " (within a three, too), one is not so, or JUMPERS are FULL: those ahead came");
        says.is("the row is missing", x.jumpers(2, 0, 7), 0);
        says.is("below a missing row", x.jumpers(2, -1, 7), 0);
        x.row(0, 0, 0);
        says.is("a row of none", x.jumpers(0, 0, 7), 0);
        Due.row(x, 0, 0, 1, 2, 1, 3, 4, 0, 5, 6);
        says.is("from a place below 0", x.jumpers(0, -1, 7), 0);
        says.is("a three below 0", x.jumpers(0, -3, 7), 0);
        says.is("from its end", x.jumpers(0, 8, 7), 0);
        says.is("far from it", x.jumpers(0, Integer.MAX_VALUE, 7), 0);
        says.is("far below it", x.jumpers(0, Integer.MIN_VALUE, 7), 0);
        says.is("within a three, at its third", x.jumpers(0, 6, 1), 0);
        says.is("nobody came", x.count(0), 0);
        says.is("it ends within the third three", x.jumpers(0, 0, 7), 2);
        says.is("the SQUARE of the first", x.of(0, 2), 1);
        says.is("STICKS of the first", x.of(0, 3), 0);
        Due.row(x, 0, 0, 9, 9, 0, 1, 0, 1, 5, 3, 2, 5, 3, 0);
        says.is("the third one's SQUARE is not so", x.jumpers(0, 0, 4), 2);
        Due.row(x, 0, 0, 2, 2, 0);
        says.is("it ends behind a three", x.jumpers(0, 0, 7), 1);
        says.is("5 came", x.count(0), 5);
        long[][] notSo = {{0, 3, 0}, {10, 3, 0}, {5, -1, 0}, {5, 10, 0}, {5, 3, -1}, {5, 3, 2}};
        for (long[] three : notSo) {
            Due.row(x, 0, 0, three);
            says.is("one is not so", x.jumpers(0, 0, 7), 0);
        }
        Due.row(x, 0, 0, 5, 3, 0, 6, 3, 0, 7, 3, 0, 8, 3, 0);
        says.is("FULL behind two more", x.jumpers(0, 0, 4), 2);
        says.is("the last that came", x.of(6, 0), 6);
        says.is("FULL already", x.jumpers(0, 0, 4), 0);
        says.is("7 came", x.count(0), 7);
    }

    private void mend() {
        OutByTurns x = new OutByTurns();
        says.promise(4, "WEIGHT (what 0), SKILL (1), SQUARE (2), STICKS (3) of a JUMPER, FROM (4), TO (5), WIRE (6; VOID:"
            + " none), SPEED (7), ABOVE (8), BELOW (9), HEIGHT (10), RUN IN (11; number 0 for 4 to 11) becomes v: what it was.");
        int[] v = {8, 7, 1, 2, -50, 60, 3, 40, 5, -6, 7, 1};
        int[] was = {5, 3, 0, 0, -99, 300, OutByTurns.VOID, 36, 0, 0, 9, 0};
        x.jumper(5, 3);
        for (int what = 0; what <= 11; what++) {
            says.is("mend(0, " + what + ", ..)", x.mend(0, what, v[what]), was[what]);
        }
        for (int what = 0; what <= 11; what++) {
            says.is("it became that, " + what, x.of(0, what), v[what]);
        }
        says.promise(4, "-3000: BAD.");
        says.is("what -1", x.mend(0, -1, 1), WRONG);
        says.is("what 12", x.mend(0, 12, 1), WRONG);
        says.is("a RUN IN of 2", x.mend(0, 11, 2), WRONG);
        says.is("a RUN IN of -1", x.mend(0, 11, -1), WRONG);
        for (int what = 0; what <= 11; what++) {
            says.is("number 1, what " + what, x.mend(1, what, 1), WRONG);
            says.is("number -1, what " + what, x.mend(-1, what, 1), WRONG);
            says.is("as it was", x.of(0, what), v[what]);
        }
        says.is("none of these is a change", x.count(2), 12);
    }

    private void of() {
        OutByTurns x = new OutByTurns();
        says.promise(5, "As of mend() (0 to 11). -3000: BAD.");
        for (int what = 0; what <= 3; what++) {
            says.is("of nobody, " + what, x.of(0, what), WRONG);
        }
        x.jumper(5, 3);
        int[] due = {5, 3, 0, 0, -99, 300, OutByTurns.VOID, 36, 0, 0, 9, 0};
        for (int what = 0; what <= 11; what++) {
            says.is("of(0, " + what + ")", x.of(0, what), due[what]);
            says.is("of(1, " + what + ")", x.of(1, what), WRONG);
            says.is("of(-1, " + what + ")", x.of(-1, what), WRONG);
        }
        says.is("of(0, -1)", x.of(0, -1), WRONG);
        says.is("of(0, 12)", x.of(0, 12), WRONG);
        says.is("of(0, least int)", x.of(0, Integer.MIN_VALUE), WRONG);
    }
}
