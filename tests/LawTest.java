/** Promises 6 to 8: the tape, the law told as a text, how far one is carried. */
public final class LawTest {
    private static final Due DUE = new Due("LawTest");

    public static void main(String[] args) {
        tape();
        withoutAText();
        worths();
        lines();
        held();
        faults();
        open();
        aFaultKeepsTheLaw();
        DUE.end();
    }

    private static void tape() {
        OutByTurns x = new OutByTurns();
        DUE.is("feed(-1)", x.feed(-1), OutByTurns.BAD);
        DUE.is("feed(256)", x.feed(256), OutByTurns.BAD);
        DUE.is("feed(0)", x.feed(0), 1);
        DUE.is("feed(255)", x.feed(255), 2);
        for (int n = 3; n <= 120; n++) {
            DUE.is("feed(49)", x.feed('1'), n);
        }
        DUE.is("count(1)", x.count(1), 120);
        DUE.is("the 121st byte", x.feed('1'), OutByTurns.FULL);
        DUE.is("a wrong 121st", x.feed(256), OutByTurns.BAD);
        DUE.is("byte 0 is no text", x.law(), -100);
        DUE.is("the tape is empty then", x.count(1), 0);
        StringBuilder longest = new StringBuilder("1");
        for (int i = 0; i < 59; i++) {
            longest.append("+1");
        }
        longest.append(' ');
        DUE.is("the last byte of 120 is a fault", Due.law(x, longest.toString()), -219);
        longest.setCharAt(119, '+');
        DUE.is("120 bytes that end too early", Due.law(x, longest.toString()), -220);
        longest.setCharAt(119, '1');
        x.jumper(5, 3);
        DUE.is("120 bytes", Due.law(x, longest.toString()), 1);
        DUE.is("their worth", x.carried(0), 1 + 58 + 11);
    }

    private static void withoutAText() {
        OutByTurns x = new OutByTurns();
        DUE.is("carried(0) of nobody", x.carried(0), OutByTurns.VOID);
        x.jumper(4, 6);
        DUE.is("carried(-1)", x.carried(-1), OutByTurns.VOID);
        DUE.is("carried(1)", x.carried(1), OutByTurns.VOID);
        DUE.is("no wind", x.carried(0), -36);
        x.mend(0, 8, 20);
        x.mend(0, 9, 5);
        DUE.is("two winds", x.carried(0), 9 * 25 - 36);
        x.mend(0, 2, 1);
        DUE.is("steered against a wind upward", x.carried(0), 9 * 25 - 36 - 30);
        x.mend(0, 9, -5);
        DUE.is("steered against a wind downward", x.carried(0), 9 * 15 - 36 + 30);
        x.mend(0, 9, 0);
        DUE.is("no wind to steer against", x.carried(0), 9 * 20 - 36);
        x.mend(0, 10, 2);
        DUE.is("from two hundred yards", x.carried(0), 2 * 20 - 8);
        x.mend(0, 10, 9);
        x.mend(0, 8, 30);
        x.mend(0, 9, 30);
        x.mend(0, 2, 0);
        x.mend(0, 0, 1);
        DUE.is("held within 500", x.carried(0), 500);
        x.mend(0, 8, -30);
        x.mend(0, 9, -30);
        DUE.is("held within -500", x.carried(0), -500);
    }

    private static OutByTurns one() {
        OutByTurns x = new OutByTurns();
        x.jumper(5, 3);
        x.mend(0, 2, 1);
        x.mend(0, 8, 7);
        x.mend(0, 9, -4);
        x.mend(0, 10, 6);
        return x;
    }

    private static void worth(String text, int due) {
        OutByTurns x = one();
        DUE.is("law " + text, Due.law(x, text), 1);
        DUE.is("worth of " + text, x.carried(0), due);
    }

    private static void worths() {
        worth("w", 5);
        worth("s", 3);
        worth("q", 1);
        worth("a", 7);
        worth("b", -4);
        worth("h", 6);
        worth("0", 0);
        worth("0042", 42);
        worth("2+3*4", 14);
        worth("2*3+4", 10);
        worth("20-5-3", 12);
        worth("100/7/2", 7);
        worth("100%7*3", 6);
        worth("7/2*2", 6);
        worth("-7/2", -3);
        worth("-7%4", -3);
        worth("7%-4", 3);
        worth("7/0", 0);
        worth("7%0", 0);
        worth("7/0+1", 1);
        worth("(2+3)*4", 20);
        worth("-w", -5);
        worth("--w", 5);
        worth("!w", 0);
        worth("!0", 1);
        worth("!!w", 1);
        worth("!0+1", 2);
        worth("-2+5", 3);
        worth("-(2+5)", -7);
        worth("3-!0", 2);
        worth("2<3", 1);
        worth("3<2", 0);
        worth("2<2", 0);
        worth("2=2", 1);
        worth("2=3", 0);
        worth("3>2", 1);
        worth("2>3", 0);
        worth("2>2", 0);
        worth("1+1=2", 1);
        worth("(1<2)<1", 0);
        worth("5&2", 1);
        worth("5&0", 0);
        worth("0&5", 0);
        worth("0|0", 0);
        worth("0|4", 1);
        worth("4|0", 1);
        worth("1|0&0", 1);
        worth("(1|0)&0", 0);
        worth("1<2&2<3", 1);
        worth("1&2=2", 1);
        worth("0=1|1", 1);
        worth("9999*9999*9999*0+w", 5);
        worth("9999*9999*99/9999%1", 0);
    }

    private static void lines() {
        worth("5?7", 7);
        worth("0?7", 0);
        worth("0?7;8", 8);
        worth("1?7;8", 7);
        worth("0?7;0?8", 0);
        worth("0?7;0?8;9", 9);
        worth("0?7;w?8;9", 8);
        worth("4;1?7", 4);
        worth("0;1?7", 0);
        worth("w>4&s<4?a-b;h", 11);
        worth("(w<4)?a;b", -4);
        worth("-1?6;5", 6);
    }

    private static void held() {
        worth("500", 500);
        worth("501", 500);
        worth("9999", 500);
        worth("-500", -500);
        worth("-501", -500);
        worth("9999*9999", 500);
        worth("9999*9999*30", -500);
        worth("9999*9999*30/9999/9999", (9999 * 9999 * 30) / 9999 / 9999);
        worth("0-9999*9999*30", 500);
    }

    private static void fault(String text, int place) {
        OutByTurns x = one();
        DUE.is("fault of " + text, Due.law(x, text), -100 - place);
        DUE.is("the tape after a fault", x.count(1), 0);
    }

    private static void faults() {
        fault("", 0);
        fault(" ", 0);
        fault(" 1", 0);
        fault("1 ", 1);
        fault("1+", 2);
        fault("+1", 0);
        fault("1+*2", 2);
        fault("12345", 4);
        fault("00000", 4);
        fault("w1", 1);
        fault("1w", 1);
        fault("ww", 1);
        fault("x", 0);
        fault("W", 0);
        fault("1<2<3", 3);
        fault("1=2>3", 3);
        fault("1!", 1);
        fault("1!=2", 1);
        fault("1<=2", 2);
        fault("1||2", 2);
        fault("1&&2", 2);
        fault("(1", 2);
        fault("(", 1);
        fault("()", 1);
        fault("1)", 1);
        fault("(1))", 3);
        fault("(1?2)", 2);
        fault("(1;2)", 2);
        fault("1?", 2);
        fault("1?2?3", 3);
        fault("1?2;", 4);
        fault(";1", 0);
        fault("1;;2", 2);
        fault("1;", 2);
        fault("1?;2", 2);
        fault("?1", 0);
        fault("!", 1);
        fault("-", 1);
        fault("2 +3)", 1);
        fault("2+3)5 ;", 3);
        fault("1;2?3;4$5", 7);
        fault("w\u00e9", 1);
        fault("w\u0000", 1);
    }

    private static void open() {
        worth("((((((w))))))", 5);
        worth("------w", 5);
        worth("!!!!!!w", 1);
        worth("-(-(-(w)))", -5);
        worth("-1+-1+-1+-1+-1+-1+-1+-1", -8);
        worth("(1)+(2)+(3)+(4)+(5)+(6)+(7)+(8)", 36);
        worth("(((((-1)))))-(-(-(-1)))", 0);
        fault("(((((((w)))))))", 6);
        fault("-------w", 6);
        fault("!!!!!!!w", 6);
        fault("-(!(-(-w)))", 6);
        fault("(((((-!1)))))", 6);
        fault("1-((((((-1))))))", 8);
        fault("(((((-1))))-------1", 17);
    }

    private static void aFaultKeepsTheLaw() {
        OutByTurns x = one();
        DUE.is("law w*2", Due.law(x, "w*2"), 1);
        DUE.is("the tape after the law", x.count(1), 0);
        DUE.is("law w*", Due.law(x, "w*"), -102);
        DUE.is("the law that was", x.carried(0), 10);
        x.feed('7');
        DUE.is("what is on the tape is no law yet", x.carried(0), 10);
        DUE.is("law 7", x.law(), 1);
        DUE.is("the law that came", x.carried(0), 7);
        DUE.is("an empty tape is no law", x.law(), -100);
        DUE.is("the law still", x.carried(0), 7);
        DUE.is("law by a jumper's numbers", Due.law(x, "w*10+s"), 1);
        x.jumper(2, 9);
        DUE.is("the first one's", x.carried(0), 53);
        DUE.is("the second one's", x.carried(1), 29);
        DUE.is("the law is no change", x.count(2), 4);
    }
}
