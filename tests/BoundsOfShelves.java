/** Acts and shelves: the rest of part 5, promises 35 to 44. */
final class BoundsOfShelves {
    private static final int MOST = Integer.MAX_VALUE, LEAST = Integer.MIN_VALUE;

    private final Says says;

    private BoundsOfShelves(Says says) {
        this.says = says;
    }

    static void ask(Says says) {
        BoundsOfShelves bounds = new BoundsOfShelves(says);
        bounds.bodies();
        bounds.acts();
        bounds.actsThatWrap();
        bounds.above();
        bounds.trace();
        bounds.noAct();
        bounds.shelves();
        bounds.keep();
        bounds.row();
        bounds.lowestBits();
        bounds.places();
        bounds.shift();
        bounds.wrongShifts();
        bounds.taken();
        bounds.count();
    }

    private void bodies() {
        OutByTurns x = new OutByTurns();
        says.part(5, "BODIES 0 .. 49, of KINDS: 0 DROP; 1 HEAVY under DROP; 2 ROUND under DROP; 3 LATE under ROUND;"
            + " 4 FIRST under HEAVY; 5 SQUARE under LATE; 6 PAPER under DROP; 7 STUCK under FIRST.");
        int[] above = {-1, 0, 0, 2, 1, 3, 0, 4};
        for (int kind = 0; kind <= 7; kind++) {
            x.body(kind);
            x.keep(0, kind);
            boolean[] under = new boolean[8];
            for (int at = kind; at >= 0; at = above[at]) {
                under[at] = true;
            }
            for (int k = 0; k <= 7; k++) {
                says.is(kind + " taken for " + k, x.taken(0, k), under[k] ? kind : -12);
            }
        }
        for (int number = 8; number <= 49; number++) {
            says.is("the next", x.body(0), number);
        }
        says.is("a 51st", x.body(0), OutByTurns.FULL);
        says.is("BODY 49", x.keep(0, 49), 1);
        says.is("BODY 50", x.keep(0, 50), OutByTurns.BAD);
        says.promise(35, "A DROP of a KIND (0 .. 7) is kept: its number. BAD, FULL.");
        says.is("KIND -1, BAD ahead of FULL", x.body(-1), OutByTurns.BAD);
        says.is("KIND 8, BAD ahead of FULL", x.body(8), OutByTurns.BAD);
        OutByTurns y = new OutByTurns();
        says.is("KIND -1", y.body(-1), OutByTurns.BAD);
        says.is("KIND 8", y.body(8), OutByTurns.BAD);
        says.is("neither is kept", y.count(3), 0);
        says.is("KIND 7", y.body(7), 0);
    }

    /** A BODY of each KIND, its number the KIND's. */
    private static OutByTurns eight() {
        OutByTurns x = new OutByTurns();
        for (int kind = 0; kind <= 7; kind++) {
            x.body(kind);
        }
        return x;
    }

    private void acts() {
        OutByTurns x = eight();
        says.part(5, "ACTS with x (an int that wraps): 0 goes, 1 falls, 2 steers, 3 tells; n its number."
            + " BODIES of acts: GOES (an interface of DROP): 1 goes: x + n. DROP: 10 falls: goes(x) * 2. 11 steers: x ^ n."
            + " TELLS (of DROP): 2 tells: falls(x) - steers(1). HEAVY: 20 goes: super.goes(x) + 3. ROUND: 30 falls:"
            + " -super.falls(x). LATE: 40 steers: super.steers(x) * 3. 41 falls: super.falls(x + 1). FIRST: 50 steers:"
            + " super.steers(x) - goes(2). SQUARE: 60 tells: super.tells(x) ^ 5. PAPER: 70 goes: super.goes(x) * 2."
            + " STUCK: 80 falls: super.falls(x) + steers(2). 81 tells: super.tells(x) - 1.");
        // By KIND (which is n, too): goes, falls, steers, tells of 10.
        int[][] due = {
            {10, 20, 10, 20 - 1},
            {14, 28, 11, 28},
            {12, -24, 8, -24 - 3},
            {13, -28, 27, -28 - 6},
            {17, 34, 14 - 9, 34 - (5 - 9)},
            {15, -32, 45, (-32 - 12) ^ 5},
            {32, 64, 12, 64 - 7},
            {20, 40 + (5 - 12), 13 - 12, 33 - (6 - 12) - 1},
        };
        for (int kind = 0; kind <= 7; kind++) {
            for (int act = 0; act <= 3; act++) {
                says.is("KIND " + kind + ", ACT " + act, x.act(kind, act, 10), due[kind][act]);
            }
        }
    }

    private void actsThatWrap() {
        OutByTurns x = eight();
        says.part(5, "x (an int that wraps)");
        says.is("the most of HEAVY goes", x.act(1, 0, MOST), LEAST + 3);
        says.is("the most of PAPER goes", x.act(6, 0, MOST), 10);
        says.is("the most of DROP falls", x.act(0, 1, MOST), -2);
        says.is("the least of DROP falls", x.act(0, 1, LEAST), 0);
        says.is("2 to the 30th of ROUND falls", x.act(2, 1, (1 << 30) - 2), LEAST);
        says.is("the most of LATE falls", x.act(3, 1, MOST), -6);
        says.is("the most of LATE steers", x.act(3, 2, MOST), (MOST - 3) * 3);
        says.is("the least of DROP steers", x.act(0, 2, LEAST), LEAST);
        says.is("the least of FIRST steers", x.act(4, 2, LEAST), LEAST + 4 - 9);
        says.is("the least of STUCK tells", x.act(7, 3, LEAST), 20 - 7 + 6 - 1);
    }

    private void above() {
        OutByTurns x = eight();
        says.part(5, "goes(..) and so on: the body of its own KIND, or of the next KIND above that has one;"
            + " super: from the KIND above the body's on.");
        traceIs(x, 1, 1, 10, 20, 1);
        traceIs(x, 4, 2, 50, 11, 20, 1);
        traceIs(x, 5, 3, 60, 2, 41, 30, 10, 1, 40, 11);
        traceIs(x, 7, 1, 80, 10, 20, 1, 50, 11, 20, 1);
        traceIs(x, 6, 1, 10, 70, 1);
        traceIs(x, 5, 2, 40, 11);
        traceIs(x, 5, 0, 1);
    }

    private void traceIs(OutByTurns x, int body, int act, int... due) {
        x.act(body, act, 3);
        for (int i = 0; i < due.length; i++) {
            says.is("body " + body + ", act " + act + ", ran " + i, x.trace(i), due[i]);
        }
        says.is("body " + body + ", act " + act + ", no more ran", x.trace(due.length), OutByTurns.BAD);
        says.is("body " + body + ", act " + act + ", how many", x.count(4), due.length);
    }

    private void trace() {
        OutByTurns x = eight();
        // No ACT of any KIND runs more than 16 bodies, so that all of them are kept.
        says.part(5, "THE TRACE: numbers of the bodies that ran in the latest act(), as they began; the first 24 are kept.");
        says.is("no act yet", x.trace(0), OutByTurns.BAD);
        traceIs(x, 7, 3, 81, 2, 80, 10, 20, 1, 50, 11, 20, 1, 50, 11, 20, 1);
        traceIs(x, 0, 0, 1);
        says.is("of the act before none is left", x.trace(1), OutByTurns.BAD);
        int most = 0;
        for (int kind = 0; kind <= 7; kind++) {
            for (int act = 0; act <= 3; act++) {
                x.act(kind, act, 1);
                most = Math.max(most, x.count(4));
            }
        }
        says.is("the most that run", most, 14);
        says.promise(37, "THE TRACE's i-th body. BAD.");
        x.act(7, 3, 1);
        says.is("i -1", x.trace(-1), OutByTurns.BAD);
        says.is("i 0", x.trace(0), 81);
        says.is("i 13", x.trace(13), 1);
        says.is("i 14", x.trace(14), OutByTurns.BAD);
        says.is("i 24", x.trace(24), OutByTurns.BAD);
        says.is("the least i", x.trace(LEAST), OutByTurns.BAD);
        says.is("the most i", x.trace(MOST), OutByTurns.BAD);
    }

    private void noAct() {
        OutByTurns x = eight();
        says.promise(36, "An ACT (0 .. 3) of a DROP with x. 0, and no TRACE then: no such DROP, ACT.");
        int[][] wrong = {{-1, 0}, {8, 0}, {49, 0}, {50, 0}, {LEAST, 0}, {MOST, 0}, {0, -1}, {0, 4}, {0, LEAST}, {0, MOST}};
        for (int[] call : wrong) {
            x.act(7, 3, 1);
            says.is("body " + call[0] + ", act " + call[1], x.act(call[0], call[1], 5), 0);
            says.is("no TRACE", x.trace(0), OutByTurns.BAD);
            says.is("none ran", x.count(4), 0);
        }
        says.is("the last body", x.act(7, 0, 0), 10);
    }

    private void shelves() {
        OutByTurns x = new OutByTurns();
        says.part(5, "SHELVES 0 .. 5 each hold nothing (at first), a DROP (a BODY), or a ROW: of 0 bytes, 1 shorts, 2 ints, 3 longs,"
            + " 4 booleans, of 0 .. 60 elements, 0 at first (false);");
        for (int shelf = 0; shelf <= 5; shelf++) {
            says.is("nothing at first", x.put(shelf, 0, 1), -11);
            says.is("a ROW of none", x.row(shelf, shelf % 5, 0), 1);
            says.is("it has no place 0", x.put(shelf, 0, 1), -13);
            says.is("a ROW of 60", x.row(shelf, shelf % 5, 60), 1);
            says.is("its first is 0", x.element(shelf, 0), 0);
            says.is("its last is 0", x.element(shelf, 59), 0);
            says.is("it has no place 60", x.put(shelf, 60, 1), -13);
            x.put(shelf, 0, 1);
            x.put(shelf, 59, 1);
            x.row(shelf, shelf % 5, 60);
            says.is("a new ROW's first is 0", x.element(shelf, 0), 0);
            says.is("a new ROW's last is 0", x.element(shelf, 59), 0);
        }
        says.is("SHELF -1", x.row(-1, 0, 1), OutByTurns.BAD);
        says.is("SHELF 6", x.row(6, 0, 1), OutByTurns.BAD);
    }

    private void keep() {
        OutByTurns x = new OutByTurns();
        says.promise(38, "A SHELF holds nothing (body -1), or a DROP: 1. BAD.");
        says.is("body 0 is not there yet", x.keep(0, 0), OutByTurns.BAD);
        says.is("nothing instead of nothing", x.keep(0, -1), 1);
        x.body(6);
        says.is("body 0", x.keep(5, 0), 1);
        says.is("there it is", x.taken(5, 6), 6);
        says.is("body 1", x.keep(5, 1), OutByTurns.BAD);
        says.is("body -2", x.keep(5, -2), OutByTurns.BAD);
        says.is("SHELF -1", x.keep(-1, 0), OutByTurns.BAD);
        says.is("SHELF 6", x.keep(6, 0), OutByTurns.BAD);
        says.is("SHELF 6, body -1", x.keep(6, -1), OutByTurns.BAD);
        says.is("there it is still", x.taken(5, 6), 6);
        says.is("nothing", x.keep(5, -1), 1);
        says.is("there it is not", x.taken(5, 6), -11);
        x.row(0, 0, 1);
        says.is("instead of a ROW", x.keep(0, 0), 1);
        says.is("the ROW is not there", x.put(0, 0, 1), -12);
    }

    private void row() {
        OutByTurns x = new OutByTurns();
        Due.row(x, 0, 3, 7, 8);
        says.promise(39, "A SHELF holds a ROW: 1. BAD (sort, n above 60); -14.");
        says.is("sort -1", x.row(0, -1, 1), OutByTurns.BAD);
        says.is("sort 5", x.row(0, 5, 1), OutByTurns.BAD);
        says.is("n 61", x.row(0, 0, 61), OutByTurns.BAD);
        says.is("the most n", x.row(0, 0, MOST), OutByTurns.BAD);
        says.is("n -1", x.row(0, 0, -1), -14);
        says.is("the least n", x.row(0, 0, LEAST), -14);
        says.is("BAD ahead of -14, sort", x.row(0, 5, -1), OutByTurns.BAD);
        says.is("BAD ahead of -14, SHELF", x.row(6, 0, -1), OutByTurns.BAD);
        says.is("the ROW is as it was", x.element(0, 1), 8);
        says.is("a shorter one", x.row(0, 3, 1), 1);
        says.is("its place 1", x.element(0, 1), Due.NO_LONG);
        x.body(0);
        x.keep(0, 0);
        says.is("instead of a BODY", x.row(0, 4, 60), 1);
    }

    private void lowestBits() {
        OutByTurns x = new OutByTurns();
        says.part(5, "what is put in keeps its lowest bits (a boolean: whether it is not 0; 1 or 0).");
        long[][] bytes = {{127, 127}, {128, -128}, {-128, -128}, {-129, 127}, {255, -1}, {256, 0}, {Long.MIN_VALUE, 0}};
        long[][] shorts = {{32767, 32767}, {32768, -32768}, {-32769, 32767}, {65535, -1}, {65536, 0}, {Long.MAX_VALUE, -1}};
        long[][] ints = {{MOST, MOST}, {2147483648L, LEAST}, {-2147483649L, MOST}, {4294967295L, -1}, {4294967296L, 0}};
        long[][] longs = {{Long.MAX_VALUE, Long.MAX_VALUE}, {-1, -1}, {4294967296L, 4294967296L}};
        long[][] booleans = {{0, 0}, {1, 1}, {-1, 1}, {2, 1}, {256, 1}, {4294967296L, 1}, {Long.MIN_VALUE, 1}};
        long[][][] sorts = {bytes, shorts, ints, longs, booleans};
        for (int sort = 0; sort <= 4; sort++) {
            for (long[] put : sorts[sort]) {
                x.row(0, sort, 1);
                says.is("put", x.put(0, 0, put[0]), 1);
                says.is(put[0] + " in a ROW of sort " + sort, x.element(0, 0), put[1]);
            }
        }
    }

    private void places() {
        OutByTurns x = new OutByTurns();
        x.body(0);
        x.keep(1, 0);
        Due.row(x, 0, 3, 7, 8);
        says.promise(40, "Element i of a ROW becomes v: 1. BAD, -11, -12, -13.");
        says.is("i 1", x.put(0, 1, 9), 1);
        int[] wrong = {-1, 2, 60, LEAST, MOST};
        for (int i : wrong) {
            says.is("i " + i, x.put(0, i, 5), -13);
            says.is("on a BODY, i " + i, x.put(1, i, 5), -12);
            says.is("on nothing, i " + i, x.put(2, i, 5), -11);
            says.is("SHELF -1, i " + i, x.put(-1, i, 5), OutByTurns.BAD);
            says.is("SHELF 6, i " + i, x.put(6, i, 5), OutByTurns.BAD);
        }
        says.promise(41, "Element i of a ROW; Long.MIN_VALUE: BAD, -11 to -13.");
        says.is("i 0", x.element(0, 0), 7);
        says.is("i 1", x.element(0, 1), 9);
        for (int i : wrong) {
            says.is("i " + i, x.element(0, i), Due.NO_LONG);
        }
        says.is("on a BODY", x.element(1, 0), Due.NO_LONG);
        says.is("on nothing", x.element(2, 0), Due.NO_LONG);
        says.is("SHELF -1", x.element(-1, 0), Due.NO_LONG);
        says.is("SHELF 6", x.element(6, 0), Due.NO_LONG);
    }

    private void rowIs(String what, OutByTurns x, int shelf, long... due) {
        for (int i = 0; i < due.length; i++) {
            says.is(what + ", element " + i, x.element(shelf, i), due[i]);
        }
    }

    private void shift() {
        OutByTurns x = new OutByTurns();
        says.promise(42, "n elements of a ROW from i on come to another one (or the same) from j on, as they all were before: n.");
        Due.row(x, 0, 2, 1, 2, 3, 4, 5);
        Due.row(x, 1, 2, 9, 9, 9);
        says.is("up to both ends", x.shift(0, 2, 1, 0, 3), 3);
        rowIs("there", x, 1, 3, 4, 5);
        rowIs("here", x, 0, 1, 2, 3, 4, 5);
        says.is("none, at both ends", x.shift(0, 5, 1, 3, 0), 0);
        says.is("none, at both beginnings", x.shift(0, 0, 1, 0, 0), 0);
        says.is("the same, up", x.shift(0, 0, 0, 1, 4), 4);
        rowIs("up", x, 0, 1, 1, 2, 3, 4);
        says.is("the same, down", x.shift(0, 1, 0, 0, 4), 4);
        rowIs("down", x, 0, 1, 2, 3, 4, 4);
        says.is("onto itself", x.shift(0, 0, 0, 0, 5), 5);
        rowIs("onto itself", x, 0, 1, 2, 3, 4, 4);
        x.row(2, 4, 60);
        x.row(3, 4, 60);
        x.put(2, 59, 1);
        says.is("all of 60", x.shift(2, 0, 3, 0, 60), 60);
        says.is("the last of 60", x.element(3, 59), 1);
        x.row(4, 0, 0);
        says.is("none of none", x.shift(4, 0, 4, 0, 0), 0);
    }

    private void wrongShifts() {
        OutByTurns x = new OutByTurns();
        Due.oddShelves(x);
        Due.row(x, 0, 2, 1, 2, 3);
        Due.row(x, 3, 2, 9, 9, 9, 9);
        says.promise(42, "BAD, -11 (either), -12 (no ROWS, or of unlike sorts), -13.");
        says.is("SHELF -1", x.shift(-1, 0, 0, 0, 1), OutByTurns.BAD);
        says.is("SHELF 6, BAD ahead of -11", x.shift(6, 0, 1, 0, 1), OutByTurns.BAD);
        says.is("another, -1", x.shift(0, 0, -1, 0, 1), OutByTurns.BAD);
        says.is("another, 6, BAD ahead of -11", x.shift(1, 0, 6, 0, 1), OutByTurns.BAD);
        says.is("nothing here", x.shift(1, 0, 0, 0, 1), -11);
        says.is("nothing there", x.shift(0, 0, 1, 0, 1), -11);
        says.is("a BODY here, nothing there: -11 ahead of -12", x.shift(2, 0, 1, 0, 1), -11);
        says.is("nothing here, a BODY there", x.shift(1, 0, 2, 0, 1), -11);
        says.is("a BODY here", x.shift(2, 0, 0, 0, 1), -12);
        says.is("a BODY there", x.shift(0, 0, 2, 0, 1), -12);
        says.is("a BODY onto itself", x.shift(2, 0, 2, 0, 0), -12);
        says.is("ints to shorts", x.shift(0, 0, 4, 0, 1), -12);
        says.is("bytes to ints, -12 ahead of -13", x.shift(5, -1, 0, 7, 9), -12);
        int[][] wrong = {{-1, 0, 1}, {-1, 0, 0}, {0, -1, 1}, {0, -1, 0}, {0, 0, 4}, {1, 0, 3}, {3, 0, 1}, {4, 0, 0}, {0, 2, 3},
            {0, 4, 1}, {0, 5, 0}, {0, 0, -1}, {MOST, 0, 1}, {0, MOST, 1}, {0, 0, MOST}, {1, 1, MOST}, {LEAST, 0, 1},
            {0, 0, LEAST}, {MOST, MOST, MOST}};
        for (int[] call : wrong) {
            says.is("i " + call[0] + ", j " + call[1] + ", n " + call[2], x.shift(0, call[0], 3, call[1], call[2]), -13);
        }
        rowIs("none came", x, 3, 9, 9, 9, 9);
    }

    private void taken() {
        OutByTurns x = eight();
        x.keep(0, 3);
        x.row(2, 0, 1);
        says.promise(43, "taken for a DROP of KIND k (0 .. 7), or under it: its KIND. BAD, -11, -12.");
        says.is("its own KIND", x.taken(0, 3), 3);
        says.is("the KIND above", x.taken(0, 2), 3);
        says.is("the KIND above all", x.taken(0, 0), 3);
        says.is("a KIND under it", x.taken(0, 5), -12);
        says.is("a KIND beside it", x.taken(0, 1), -12);
        says.is("KIND -1", x.taken(0, -1), OutByTurns.BAD);
        says.is("KIND 8", x.taken(0, 8), OutByTurns.BAD);
        says.is("SHELF -1", x.taken(-1, 0), OutByTurns.BAD);
        says.is("SHELF 6", x.taken(6, 0), OutByTurns.BAD);
        says.is("nothing", x.taken(1, 0), -11);
        says.is("BAD ahead of -11", x.taken(1, 8), OutByTurns.BAD);
        says.is("a ROW", x.taken(2, 0), -12);
        says.is("BAD ahead of -12", x.taken(2, -1), OutByTurns.BAD);
    }

    private void count() {
        OutByTurns x = new OutByTurns();
        says.promise(44, "How many: 0 JUMPERS, 1 bytes on THE TAPE, 2 changes that may be UNDONE, 3 BODIES,"
            + " 4 bodies that ran in the latest act() (all, kept or not). BAD.");
        int[] due = {2, 3, 1, 4, 14};
        for (int what = 0; what <= 4; what++) {
            says.is("at first, " + what, x.count(what), 0);
        }
        x.jumper(5, 3);
        x.jumper(5, 3);
        x.feed(0);
        x.feed(0);
        x.feed(0);
        x.mend(0, 0, 1);
        x.mend(0, 0, 2);
        x.undo();
        for (int body = 0; body < 4; body++) {
            x.body(7);
        }
        x.act(0, 3, 1);
        for (int what = 0; what <= 4; what++) {
            says.is("what " + what, x.count(what), due[what]);
        }
        says.is("what -1", x.count(-1), OutByTurns.BAD);
        says.is("what 5", x.count(5), OutByTurns.BAD);
        says.is("the least what", x.count(LEAST), OutByTurns.BAD);
    }
}
