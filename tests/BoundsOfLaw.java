/** The law and where one comes down: the rest of part 1, promises 6 to 8. */
final class BoundsOfLaw {
    private final Says says;

    private BoundsOfLaw(Says says) {
        this.says = says;
    }

    static void ask(Says says) {
        BoundsOfLaw bounds = new BoundsOfLaw(says);
        bounds.tape();
        bounds.lines();
        bounds.ranks();
        bounds.singles();
        bounds.open();
        bounds.ints();
        bounds.whichLine();
        bounds.fault();
        bounds.held();
        bounds.withoutAText();
        bounds.wellAndMeets();
        bounds.drop();
    }

    /** WEIGHT 5, SKILL 3, SQUARE 1, ABOVE 7, BELOW -4, HEIGHT 6. */
    private void worth(String text, int yards) {
        OutByTurns x = new OutByTurns();
        x.jumper(5, 3);
        x.mend(0, 2, 1);
        x.mend(0, 8, 7);
        x.mend(0, 9, -4);
        x.mend(0, 10, 6);
        says.is(text + ", law()", Due.law(x, text), 1);
        says.is(text + ", carried", x.carried(0), yards);
    }

    private void faultAt(String text, int place) {
        says.is(text + ", law()", Due.law(new OutByTurns(), text), -100 - place);
    }

    private static String ones(int bytes) {
        return "1" + "+1".repeat((bytes - 1) / 2);
    }

    private void tape() {
        OutByTurns x = new OutByTurns();
        says.promise(6, "A byte (0 .. 255) comes to THE TAPE: how many it has. BAD, FULL (120).");
        says.is("-1", x.feed(-1), OutByTurns.BAD);
        says.is("256", x.feed(256), OutByTurns.BAD);
        says.is("none came", x.count(1), 0);
        says.is("0", x.feed(0), 1);
        says.is("255", x.feed(255), 2);
        for (int bytes = 3; bytes <= 120; bytes++) {
            says.is("the next", x.feed('1'), bytes);
        }
        says.is("the 121st", x.feed('1'), OutByTurns.FULL);
        says.is("BAD ahead of FULL", x.feed(-1), OutByTurns.BAD);
        says.is("still 120", x.count(1), 120);
        says.part(1, "THE LAW is a TEXT by THE TAPE (at most 120 bytes)");
        worth("0+" + ones(117), 59);
        worth("10+" + ones(117), 69);
        says.is("the 121st does not come", Due.law(x, ones(119)), -100);
        says.is("a TEXT of 119, then ')'", Due.law(x, ones(119) + ")"), -219);
        says.promise(7, "THE TAPE becomes THE LAW: 1; -100 less its FAULT; THE TAPE is empty then.");
        x.jumper(5, 3);
        says.is("an empty one", x.law(), -100);
        says.is("without a law still", x.carried(0), -45);
        says.is("a right one", Due.law(x, "w"), 1);
        says.is("it is empty then", x.count(1), 0);
        says.is("the law", x.carried(0), 5);
        says.is("a wrong one", Due.law(x, "s+"), -102);
        says.is("it is empty then, too", x.count(1), 0);
        says.is("the law that was", x.carried(0), 5);
        says.promise(8, "How far one is carried. VOID: BAD.");
        says.is("jumper 0", x.carried(0), 5);
        says.is("jumper 1", x.carried(1), OutByTurns.VOID);
        says.is("jumper -1", x.carried(-1), OutByTurns.VOID);
    }

    private void lines() {
        says.part(1, "LINES, one or more, parted by ;");
        worth("1", 1);
        worth("1;2", 1);
        faultAt("", 0);
        faultAt(";", 0);
        faultAt("1;", 2);
        faultAt("1;;2", 2);
        says.part(1, "LINE: E, or E ? E (what counts if the first is not 0)");
        worth("2?3", 3);
        worth("-1?3", 3);
        worth("0?3", 0);
        worth("0|1?0|3", 1);
        worth("1?((((((w))))))", 5);
        worth("1?------w", 5);
        faultAt("1?-------w", 8);
        faultAt("?3", 0);
        faultAt("2?", 2);
        faultAt("2?3?4", 3);
        faultAt("(2?3)", 2);
    }

    private void ranks() {
        says.part(1, "E = A { | A }. A = B { & B }. B = S, or S < S, S = S, S > S. S = P { + P, - P }."
            + " P = O { * O, / O, % O }.");
        worth("2|0&0", 1);
        worth("0&0|2", 1);
        worth("1|0|0", 1);
        worth("1&1&0", 0);
        worth("1&2=2", 1);
        worth("2=2&1", 1);
        worth("2<1+2", 1);
        worth("3-2>0", 1);
        worth("7-2-1", 4);
        worth("2+3*4", 14);
        worth("24/4*3%5", 3);
        faultAt("1<2<3", 3);
        faultAt("1=1=1", 3);
        faultAt("3>2>1", 3);
        faultAt("1+", 2);
        faultAt("1|&1", 2);
    }

    private void singles() {
        says.part(1, "O = a number (1 to 4 digits), a NAME, ! O, - O, ( E ).");
        worth("0", 0);
        worth("9999-9990", 9);
        worth("0001", 1);
        worth("!0", 1);
        worth("-w", -5);
        worth("(w)", 5);
        worth("(0|4)", 1);
        faultAt("00001", 4);
        faultAt("w+12345", 6);
        faultAt("1w", 1);
        faultAt("w1", 1);
        faultAt("!", 1);
        faultAt("()", 1);
        faultAt("(1", 2);
        faultAt("1)", 1);
        says.part(1, "No blanks");
        faultAt(" 1", 0);
        faultAt("1 ", 1);
        faultAt("1 +1", 1);
        says.part(1, "NAMES: w WEIGHT, s SKILL, q SQUARE, a ABOVE, b BELOW, h HEIGHT");
        worth("w", 5);
        worth("s", 3);
        worth("q", 1);
        worth("a", 7);
        worth("b", -4);
        worth("h", 6);
        faultAt("W", 0);
        faultAt("x", 0);
        faultAt("wh", 1);
    }

    private void open() {
        says.part(1, "At most 6 of ( ! - ahead of an O are open at once");
        worth("((((((1))))))", 1);
        worth("!!!!!!1", 1);
        worth("------1", 1);
        worth("!(-!(-1))", 1);
        worth("((((((1))))))+((((((1))))))", 2);
        worth("------1------1-1", 1);
        worth("(((((1-1-1)))))", -1);
        worth("(((((-1)))))+-1", -2);
        faultAt("(((((((1)))))))", 6);
        faultAt("!!!!!!!1", 6);
        faultAt("-------1", 6);
        faultAt("!(-!(--1))", 6);
        faultAt("1-(((((-(1))))))", 8);
        faultAt("((((((1+-1))))))", 8);
    }

    private void ints() {
        says.part(1, "Ints that wrap;");
        worth("9999*9999*30%1000", -266);
        worth("8192*8192*32<0", 1);
        worth("8192*8192*32-1>0", 1);
        worth("-(8192*8192*32)<0", 1);
        says.part(1, "/ and % toward 0, by 0 they give 0;");
        worth("-7/2", -3);
        worth("7/-2", -3);
        worth("-7%2", -1);
        worth("7%-2", 1);
        worth("w/0", 0);
        worth("w%0", 0);
        worth("0/0", 0);
        worth("8192*8192*32/-1<0", 1);
        worth("8192*8192*32%-1", 0);
        says.part(1, "| & < = > ! give 1, 0; all is worked out");
        worth("0|0", 0);
        worth("0|7", 1);
        worth("7|0", 1);
        worth("7&0", 0);
        worth("0&7", 0);
        worth("7&7", 1);
        worth("1<2", 1);
        worth("2<2", 0);
        worth("2=2", 1);
        worth("2=1", 0);
        worth("2>1", 1);
        worth("2>2", 0);
        worth("!7", 0);
        worth("!0", 1);
        worth("1|1/0", 1);
        worth("0&1%0", 0);
    }

    private void whichLine() {
        says.part(1, "The first LINE without a first E, or whose first E is not 0, counts; none: 0.");
        worth("0?2;3;4", 3);
        worth("0?2;w?3;4", 3);
        worth("3;1?2", 3);
        worth("0;1?2", 0);
        worth("1?0;2", 0);
        worth("0?2", 0);
        worth("0?2;0?3", 0);
        worth("0?2;".repeat(29) + "0?22", 0);
    }

    private void fault() {
        says.part(1, "FAULT: the place (from 0) of the first byte with which no TEXT goes on; the length, if it ends too early.");
        faultAt("+", 0);
        faultAt("1$+", 1);
        faultAt("1+$)", 2);
        faultAt("1+", 2);
        faultAt("1?2;3-(4", 8);
        faultAt(ones(119) + "$", 119);
        faultAt(ones(119) + "+", 120);
        faultAt("\u0000", 0);
        faultAt("1\u00ff", 1);
    }

    private void held() {
        says.part(1, "(held within -500 .. 500)");
        worth("499", 499);
        worth("500", 500);
        worth("501", 500);
        worth("-499", -499);
        worth("-500", -500);
        worth("-501", -500);
        worth("8192*8192*32", -500);
        worth("8192*8192*32-1", 500);
    }

    private void withoutAText() {
        OutByTurns x = new OutByTurns();
        x.jumper(4, 6);
        says.part(1, "Without a text: h times (a and b), less h times w, and, if SQUARE and b is not 0, SKILL times 5"
            + " against BELOW (less, if b is above 0).");
        x.mend(0, 8, 10);
        x.mend(0, 9, 1);
        says.is("without SQUARE", x.carried(0), 9 * 11 - 36);
        x.mend(0, 2, 1);
        says.is("b 1", x.carried(0), 9 * 11 - 36 - 30);
        x.mend(0, 9, 0);
        says.is("b 0", x.carried(0), 9 * 10 - 36);
        x.mend(0, 9, -1);
        says.is("b -1", x.carried(0), 9 * 9 - 36 + 30);
        x.mend(0, 1, 0);
        says.is("SKILL 0", x.carried(0), 9 * 9 - 36);
        x.mend(0, 10, 1);
        says.is("h 1", x.carried(0), 9 - 4);
    }

    private void wellAndMeets() {
        OutByTurns x = new OutByTurns();
        x.jumper(5, 0);
        x.jumper(5, 2);
        Due.law(x, "s*7");
        x.mend(0, 7, 1);
        Due.order(x, 0, 1, 0);
        says.part(1, "One who goes out at YARD y comes DOWN at y and that.");
        says.is("from -999", x.down(0, Due.yc(-999, 1), 0), -985);
        says.is("from 999", x.down(0, Due.yc(999, 1), 0), 1013);
        says.part(1, "WELL: on THE FIELD, not within the WIRE's yards.");
        x.mend(0, 4, 20);
        x.mend(0, 5, 40);
        x.mend(0, 6, 28);
        Due.order(x, 1, 0);
        int[] yards = {19, 20, 22, 23, 33, 34, 40, 41};
        int[] well = {0, 1, 1, 0, 0, 1, 1, 0};
        for (int i = 0; i < yards.length; i++) {
            says.is("at " + yards[i], x.drop(1, Due.yc(yards[i], 1), 0), well[i]);
        }
        says.part(1, "MEETS: two who come DOWN within 10 yards of one another, going out within 4 seconds of one another"
            + " (both meet).");
        // The one 14 yards behind goes out one yard a second later.
        says.is("10 yards, 4 seconds: both", x.drop(0, Due.yc(0, 4), 1), 2);
        says.is("11 yards, 3 seconds", x.drop(0, Due.yc(0, 3), 1), 0);
        says.is("9 yards, 5 seconds", x.drop(0, Due.yc(0, 5), 1), 0);
    }

    private void drop() {
        OutByTurns x = Due.three();
        Due.order(x, 0, 0, 1, 2);
        says.part(1, "the k-th goes out k times COUNT (1 .. 20 seconds) behind the first: SPEED yards a second farther on"
            + " (run in 1: less).");
        says.is("COUNT 0", x.drop(0, Due.yc(0, 0), 0), OutByTurns.BAD);
        says.is("COUNT 21", x.drop(0, Due.yc(0, 21), 0), OutByTurns.BAD);
        says.is("the 0th by 20", x.down(0, Due.yc(0, 20), 0), 0);
        says.is("the 2nd by 1", x.down(0, Due.yc(0, 1), 2), 20 + 90);
        says.is("the 2nd by 20", x.down(0, Due.yc(0, 20), 2), 400 + 90);
        x.mend(0, 11, 1);
        says.is("run in 1, the 2nd by 20", x.down(0, Due.yc(0, 20), 2), -400 + 90);
    }
}
