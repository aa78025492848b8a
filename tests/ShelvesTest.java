/** Promises 38 to 42 and 44: what shelves hold, and the counts. */
public final class ShelvesTest {
    private static final Due DUE = new Due("ShelvesTest");

    public static void main(String[] args) {
        keep();
        row();
        put();
        lowestBits();
        shift();
        shiftOntoItself();
        wrongShifts();
        count();
        DUE.end();
    }

    private static void keep() {
        OutByTurns x = new OutByTurns();
        DUE.is("no such body", x.keep(0, 0), OutByTurns.BAD);
        x.body(3);
        DUE.is("keep(0, 0)", x.keep(0, 0), 1);
        DUE.is("the body is there", x.taken(0, 0), 3);
        DUE.is("keep(5, 0)", x.keep(5, 0), 1);
        DUE.is("keep(0, 1)", x.keep(0, 1), OutByTurns.BAD);
        DUE.is("keep(0, -2)", x.keep(0, -2), OutByTurns.BAD);
        DUE.is("keep(-1, 0)", x.keep(-1, 0), OutByTurns.BAD);
        DUE.is("keep(6, -1)", x.keep(6, -1), OutByTurns.BAD);
        DUE.is("the body is there still", x.taken(0, 0), 3);
        DUE.is("nothing again", x.keep(0, -1), 1);
        DUE.is("nothing is there", x.taken(0, 0), -11);
        x.row(0, 2, 3);
        x.keep(0, -1);
        DUE.is("nor is the row", x.element(0, 0), Due.NO_LONG);
        DUE.is("put into nothing", x.put(0, 0, 1), -11);
        x.row(0, 2, 3);
        x.keep(0, 0);
        DUE.is("a body for a row", x.put(0, 0, 1), -12);
        x.row(0, 2, 3);
        DUE.is("a row for a body", x.taken(0, 0), -12);
    }

    private static void row() {
        OutByTurns x = new OutByTurns();
        for (int sort = 0; sort <= 4; sort++) {
            DUE.is("row of sort " + sort, x.row(sort, sort, 60), 1);
            DUE.is("its last is 0", x.element(sort, 59), 0);
            DUE.is("its end", x.put(sort, 60, 1), -13);
        }
        DUE.is("row(0, -1, 1)", x.row(0, -1, 1), OutByTurns.BAD);
        DUE.is("row(0, 5, 1)", x.row(0, 5, 1), OutByTurns.BAD);
        DUE.is("row(0, 0, 61)", x.row(0, 0, 61), OutByTurns.BAD);
        DUE.is("row(0, 0, -1)", x.row(0, 0, -1), -14);
        DUE.is("row(0, 0, MIN)", x.row(0, 0, Integer.MIN_VALUE), -14);
        DUE.is("row(0, 5, -1)", x.row(0, 5, -1), OutByTurns.BAD);
        DUE.is("row(-1, 0, -1)", x.row(-1, 0, -1), OutByTurns.BAD);
        DUE.is("row(6, 0, 1)", x.row(6, 0, 1), OutByTurns.BAD);
        DUE.is("these changed nothing", x.put(0, 59, 7), 1);
        DUE.is("row(0, 0, 0)", x.row(0, 0, 0), 1);
        DUE.is("it has no place", x.put(0, 0, 1), -13);
        x.row(0, 3, 60);
        DUE.is("a new row is of 0", x.element(0, 59), 0);
    }

    private static void put() {
        OutByTurns x = new OutByTurns();
        x.row(0, 3, 2);
        x.row(1, 3, 2);
        DUE.is("put(0, 1, 5)", x.put(0, 1, 5), 1);
        DUE.is("element(0, 1)", x.element(0, 1), 5);
        DUE.is("element(0, 0)", x.element(0, 0), 0);
        DUE.is("element(1, 1)", x.element(1, 1), 0);
        DUE.is("put(0, -1, 5)", x.put(0, -1, 5), -13);
        DUE.is("put(0, 2, 5)", x.put(0, 2, 5), -13);
        DUE.is("element(0, -1)", x.element(0, -1), Due.NO_LONG);
        DUE.is("element(0, 2)", x.element(0, 2), Due.NO_LONG);
        DUE.is("put(-1, 0, 5)", x.put(-1, 0, 5), OutByTurns.BAD);
        DUE.is("put(6, 0, 5)", x.put(6, 0, 5), OutByTurns.BAD);
        DUE.is("element(-1, 0)", x.element(-1, 0), Due.NO_LONG);
        DUE.is("element(6, 0)", x.element(6, 0), Due.NO_LONG);
        DUE.is("put(2, 0, 5)", x.put(2, 0, 5), -11);
        DUE.is("put(2, -1, 5)", x.put(2, -1, 5), -11);
        DUE.is("element(2, 0)", x.element(2, 0), Due.NO_LONG);
        x.body(0);
        x.keep(2, 0);
        DUE.is("put on a body", x.put(2, 0, 5), -12);
        DUE.is("put on a body's wrong place", x.put(2, -1, 5), -12);
        DUE.is("element of a body", x.element(2, 0), Due.NO_LONG);
    }

    private static void lowestBits() {
        OutByTurns x = new OutByTurns();
        long[] put = {0, 1, -1, 127, 128, 255, 256, -129, 32767, 32768, 65536, 2147483648L, 4294967296L,
            -2147483649L, Long.MAX_VALUE, Long.MIN_VALUE};
        for (int sort = 0; sort <= 4; sort++) {
            x.row(sort, sort, put.length);
            for (int i = 0; i < put.length; i++) {
                long v = put[i];
                long[] due = {(byte) v, (short) v, (int) v, v, v == 0 ? 0 : 1};
                x.put(sort, i, v);
                DUE.is(v + " in a row of sort " + sort, x.element(sort, i), due[sort]);
            }
        }
    }

    private static void rowIs(String what, OutByTurns x, int shelf, long... due) {
        for (int i = 0; i < due.length; i++) {
            DUE.is(what + ", element " + i, x.element(shelf, i), due[i]);
        }
    }

    private static void shift() {
        OutByTurns x = new OutByTurns();
        Due.row(x, 0, 2, 1, 2, 3, 4);
        Due.row(x, 1, 2, 5, 6, 7);
        DUE.is("two of them", x.shift(0, 1, 1, 0, 2), 2);
        rowIs("there", x, 1, 2, 3, 7);
        rowIs("here", x, 0, 1, 2, 3, 4);
        DUE.is("up to both ends", x.shift(0, 3, 1, 2, 1), 1);
        rowIs("there", x, 1, 2, 3, 4);
        DUE.is("none", x.shift(0, 4, 1, 3, 0), 0);
        DUE.is("all of one", x.shift(1, 0, 0, 1, 3), 3);
        rowIs("here", x, 0, 1, 2, 3, 4);
        x.row(4, 3, 60);
        x.row(5, 3, 60);
        x.put(4, 0, 8);
        x.put(4, 59, 9);
        DUE.is("sixty of sixty", x.shift(4, 0, 5, 0, 60), 60);
        DUE.is("the first of them", x.element(5, 0), 8);
        DUE.is("the last of them", x.element(5, 59), 9);
        DUE.is("sixty of sixty, one on", x.shift(4, 0, 5, 1, 60), -13);
        for (int sort = 0; sort <= 4; sort++) {
            Due.row(x, 2, sort, 1, 0, 1);
            Due.row(x, 3, sort, 0, 0, 0);
            DUE.is("a row of sort " + sort, x.shift(2, 0, 3, 0, 3), 3);
            rowIs("sort " + sort, x, 3, 1, 0, 1);
        }
    }

    private static void shiftOntoItself() {
        OutByTurns x = new OutByTurns();
        Due.row(x, 0, 0, 1, 2, 3, 4, 5);
        DUE.is("up", x.shift(0, 0, 0, 1, 4), 4);
        rowIs("as they all were before", x, 0, 1, 1, 2, 3, 4);
        DUE.is("down", x.shift(0, 2, 0, 0, 3), 3);
        rowIs("as they all were then", x, 0, 2, 3, 4, 3, 4);
    }

    private static void wrongShifts() {
        OutByTurns x = new OutByTurns();
        Due.oddShelves(x);
        Due.row(x, 0, 2, 1, 2, 3);
        Due.row(x, 3, 2, 9, 9, 9, 9);
        DUE.is("shelf -1", x.shift(-1, 0, 0, 0, 1), OutByTurns.BAD);
        DUE.is("shelf 6", x.shift(6, 0, 0, 0, 1), OutByTurns.BAD);
        DUE.is("other -1", x.shift(0, 0, -1, 0, 1), OutByTurns.BAD);
        DUE.is("other 6, nothing here", x.shift(1, 0, 6, 0, 1), OutByTurns.BAD);
        DUE.is("nothing here", x.shift(1, 0, 0, 0, 1), -11);
        DUE.is("nothing there", x.shift(0, 0, 1, 0, 1), -11);
        DUE.is("a body here, nothing there", x.shift(2, 0, 1, 0, 1), -11);
        DUE.is("a body here", x.shift(2, 0, 0, 0, 1), -12);
        DUE.is("a body there", x.shift(0, 0, 2, 0, 1), -12);
        DUE.is("a body both", x.shift(2, 0, 2, 0, 0), -12);
        DUE.is("unlike sorts", x.shift(0, 0, 4, 0, 1), -12);
        DUE.is("unlike sorts, places not there", x.shift(0, -1, 4, 7, 1), -12);
        int[][] wrong = {{-1, 0, 1}, {0, -1, 1}, {0, 0, 4}, {3, 0, 1}, {2, 0, 2}, {0, 4, 1}, {0, 2, 3}, {4, 0, 0},
            {0, 5, 0}, {0, 0, -1}, {3, 4, -1}, {1, 0, Integer.MAX_VALUE}, {Integer.MAX_VALUE, 0, 1},
            {0, Integer.MAX_VALUE, 1}, {0, 0, Integer.MIN_VALUE}, {Integer.MIN_VALUE, 0, 0}};
        for (int[] call : wrong) {
            DUE.is("i " + call[0] + ", j " + call[1] + ", n " + call[2],
                x.shift(0, call[0], 3, call[1], call[2]), -13);
        }
        rowIs("nothing came", x, 3, 9, 9, 9, 9);
    }

    private static void count() {
        OutByTurns x = new OutByTurns();
        DUE.is("count(-1)", x.count(-1), OutByTurns.BAD);
        DUE.is("count(5)", x.count(5), OutByTurns.BAD);
        x.jumper(5, 3);
        x.jumper(5, 3);
        x.feed(1);
        x.feed(1);
        x.feed(1);
        x.mend(0, 0, 1);
        x.body(0);
        x.body(0);
        x.body(0);
        x.body(0);
        x.act(0, 1, 1);
        int[] due = {2, 3, 1, 4, 2};
        for (int what = 0; what <= 4; what++) {
            DUE.is("count(" + what + ")", x.count(what), due[what]);
        }
    }
}
