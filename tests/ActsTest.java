/** Promises 35 to 37, and what of 43 and 44 hangs on bodies. */
public final class ActsTest {
    private static final Due DUE = new Due("ActsTest");

    public static void main(String[] args) {
        body();
        worths();
        traces();
        noSuchAct();
        taken();
        DUE.end();
    }

    private static void body() {
        OutByTurns x = new OutByTurns();
        DUE.is("body(-1)", x.body(-1), OutByTurns.BAD);
        DUE.is("body(8)", x.body(8), OutByTurns.BAD);
        for (int number = 0; number <= 49; number++) {
            DUE.is("count(3)", x.count(3), number);
            DUE.is("body", x.body(number % 8), number);
        }
        DUE.is("a 51st", x.body(0), OutByTurns.FULL);
        DUE.is("a wrong 51st", x.body(8), OutByTurns.BAD);
        DUE.is("fifty", x.count(3), 50);
        DUE.is("the last goes", x.act(49, 0, 1), 53);
    }

    /** One body of each kind, numbered 8 to 15. */
    private static OutByTurns eight() {
        OutByTurns x = new OutByTurns();
        for (int round = 0; round < 2; round++) {
            for (int kind = 0; kind <= 7; kind++) {
                x.body(kind);
            }
        }
        return x;
    }

    // The bodies by Java's own classes, as the document writes them down.
    interface Goes {
        int number();

        default int goes(int x) {
            return x + number();
        }
    }

    interface Tells {
        int falls(int x);

        int steers(int x);

        default int tells(int x) {
            return falls(x) - steers(1);
        }
    }

    static class Drop implements Goes, Tells {
        private final int n;

        Drop(int n) {
            this.n = n;
        }

        public int number() {
            return n;
        }

        public int falls(int x) {
            return goes(x) * 2;
        }

        public int steers(int x) {
            return x ^ n;
        }
    }

    static class Heavy extends Drop {
        Heavy(int n) {
            super(n);
        }

        public int goes(int x) {
            return super.goes(x) + 3;
        }
    }

    static class Round extends Drop {
        Round(int n) {
            super(n);
        }

        public int falls(int x) {
            return -super.falls(x);
        }
    }

    static class Late extends Round {
        Late(int n) {
            super(n);
        }

        public int steers(int x) {
            return super.steers(x) * 3;
        }

        public int falls(int x) {
            return super.falls(x + 1);
        }
    }

    static class First extends Heavy {
        First(int n) {
            super(n);
        }

        public int steers(int x) {
            return super.steers(x) - goes(2);
        }
    }

    static class Square extends Late {
        Square(int n) {
            super(n);
        }

        public int tells(int x) {
            return super.tells(x) ^ 5;
        }
    }

    static class Paper extends Drop {
        Paper(int n) {
            super(n);
        }

        public int goes(int x) {
            return super.goes(x) * 2;
        }
    }

    static class Stuck extends First {
        Stuck(int n) {
            super(n);
        }

        public int falls(int x) {
            return super.falls(x) + steers(2);
        }

        public int tells(int x) {
            return super.tells(x) - 1;
        }
    }

    private static Drop java(int kind, int n) {
        switch (kind) {
            case 0:
                return new Drop(n);
            case 1:
                return new Heavy(n);
            case 2:
                return new Round(n);
            case 3:
                return new Late(n);
            case 4:
                return new First(n);
            case 5:
                return new Square(n);
            case 6:
                return new Paper(n);
            default:
                return new Stuck(n);
        }
    }

    private static void worths() {
        OutByTurns x = eight();
        int[] with = {0, 1, -1, 7, 1000, Integer.MAX_VALUE, Integer.MIN_VALUE, 0x40000000, 123456789};
        for (int number = 0; number < 16; number++) {
            Drop due = java(number % 8, number);
            for (int v : with) {
                String told = number + " with " + v;
                DUE.is("goes " + told, x.act(number, 0, v), due.goes(v));
                DUE.is("falls " + told, x.act(number, 1, v), due.falls(v));
                DUE.is("steers " + told, x.act(number, 2, v), due.steers(v));
                DUE.is("tells " + told, x.act(number, 3, v), due.tells(v));
            }
        }
        DUE.is("a drop tells: (4 + 8) * 2 - (1 ^ 8)", x.act(8, 3, 4), 15);
        DUE.is("a heavy one goes: 4 + 9 + 3", x.act(9, 0, 4), 16);
        DUE.is("a late one falls: -(5 + 11) * 2", x.act(11, 1, 4), -32);
        DUE.is("paper falls: (4 + 14) * 2 * 2", x.act(14, 1, 4), 72);
    }

    private static void traced(OutByTurns x, int number, int act, int... due) {
        x.act(number, act, 3);
        String told = "body " + number + ", act " + act;
        DUE.is(told + ", how many ran", x.count(4), due.length);
        for (int i = 0; i < due.length; i++) {
            DUE.is(told + ", ran " + i, x.trace(i), due[i]);
        }
        DUE.is(told + ", behind them", x.trace(due.length), OutByTurns.BAD);
        DUE.is(told + ", ahead of them", x.trace(-1), OutByTurns.BAD);
    }

    private static void traces() {
        OutByTurns x = eight();
        traced(x, 0, 0, 1);
        traced(x, 0, 1, 10, 1);
        traced(x, 0, 2, 11);
        traced(x, 0, 3, 2, 10, 1, 11);
        traced(x, 1, 0, 20, 1);
        traced(x, 1, 1, 10, 20, 1);
        traced(x, 1, 3, 2, 10, 20, 1, 11);
        traced(x, 2, 1, 30, 10, 1);
        traced(x, 2, 3, 2, 30, 10, 1, 11);
        traced(x, 3, 1, 41, 30, 10, 1);
        traced(x, 3, 2, 40, 11);
        traced(x, 3, 3, 2, 41, 30, 10, 1, 40, 11);
        traced(x, 4, 0, 20, 1);
        traced(x, 4, 2, 50, 11, 20, 1);
        traced(x, 4, 3, 2, 10, 20, 1, 50, 11, 20, 1);
        traced(x, 5, 0, 1);
        traced(x, 5, 2, 40, 11);
        traced(x, 5, 3, 60, 2, 41, 30, 10, 1, 40, 11);
        traced(x, 6, 0, 70, 1);
        traced(x, 6, 1, 10, 70, 1);
        traced(x, 6, 3, 2, 10, 70, 1, 11);
        traced(x, 7, 0, 20, 1);
        traced(x, 7, 1, 80, 10, 20, 1, 50, 11, 20, 1);
        traced(x, 7, 2, 50, 11, 20, 1);
        traced(x, 7, 3, 81, 2, 80, 10, 20, 1, 50, 11, 20, 1, 50, 11, 20, 1);
        traced(x, 0, 2, 11);
    }

    private static void noSuchAct() {
        OutByTurns x = eight();
        int[][] wrong = {{-1, 0}, {16, 0}, {0, -1}, {0, 4}, {Integer.MAX_VALUE, 0}, {0, Integer.MIN_VALUE}};
        for (int[] call : wrong) {
            x.act(7, 3, 1);
            DUE.is("no such drop or act", x.act(call[0], call[1], 9), 0);
            DUE.is("no trace then", x.trace(0), OutByTurns.BAD);
            DUE.is("none ran", x.count(4), 0);
        }
    }

    private static void taken() {
        OutByTurns x = eight();
        Due.row(x, 1, 0, 1, 2);
        boolean[][] under = new boolean[8][8];
        int[] above = {-1, 0, 0, 2, 1, 3, 0, 4};
        for (int kind = 0; kind < 8; kind++) {
            for (int k = kind; k >= 0; k = above[k]) {
                under[kind][k] = true;
            }
            x.keep(0, kind + 8);
            for (int k = 0; k < 8; k++) {
                DUE.is(kind + " taken for " + k, x.taken(0, k), under[kind][k] ? kind : -12);
            }
        }
        DUE.is("taken for -1", x.taken(0, -1), OutByTurns.BAD);
        DUE.is("taken for 8", x.taken(0, 8), OutByTurns.BAD);
        DUE.is("shelf -1", x.taken(-1, 0), OutByTurns.BAD);
        DUE.is("shelf 6", x.taken(6, 0), OutByTurns.BAD);
        DUE.is("nothing there", x.taken(2, 0), -11);
        DUE.is("nothing there, for 8", x.taken(2, 8), OutByTurns.BAD);
        DUE.is("a row", x.taken(1, 0), -12);
    }
}
