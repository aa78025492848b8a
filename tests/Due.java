import java.util.function.IntToLongFunction;

/** What the tests share: counting wrong answers, and filling an object's shelves and tape. */
final class Due {
    static final int NONE = OutByTurns.VOID;
    static final long NO_LONG = Long.MIN_VALUE;

    private final String test;
    private int asked;
    private int wrong;

    Due(String test) {
        this.test = test;
    }

    void is(String call, long got, long want) {
        asked++;
        if (got != want) {
            wrong++;
            System.out.println(test + ": " + call + " answered " + got + ", due is " + want);
        }
    }

    void holds(String what, boolean so) {
        is(what, so ? 1 : 0, 1);
    }

    void end() {
        System.out.println(test + ": " + asked + " answers, " + wrong + " wrong");
        if (wrong != 0 || asked == 0) {
            System.exit(1);
        }
    }

    static void row(OutByTurns x, int shelf, int sort, long... elements) {
        x.row(shelf, sort, elements.length);
        for (int i = 0; i < elements.length; i++) {
            x.put(shelf, i, elements[i]);
        }
    }

    static void order(OutByTurns x, int shelf, long... jumpers) {
        row(x, shelf, 0, jumpers);
    }

    static void seen(OutByTurns x, int shelf, long... yards) {
        row(x, shelf, 1, yards);
    }

    static int law(OutByTurns x, String text) {
        for (int i = 0; i < text.length(); i++) {
            x.feed(text.charAt(i));
        }
        return x.law();
    }

    /** Shelves 1 to 5 come to hold nothing, a body, ints, shorts, bytes. */
    static void oddShelves(OutByTurns x) {
        x.keep(1, -1);
        x.keep(2, x.body(1));
        row(x, 3, 2, 0);
        row(x, 4, 1, 0);
        row(x, 5, 0, 0);
    }

    /** A call that wants a row of one sort (bytes 0, shorts 1) on its shelf, among odd shelves. */
    void wants(String call, int sort, IntToLongFunction byShelf, long bad, long missing, long unlike) {
        is(call + ", shelf -1", byShelf.applyAsLong(-1), bad);
        is(call + ", shelf 6", byShelf.applyAsLong(6), bad);
        is(call + ", nothing there", byShelf.applyAsLong(1), missing);
        is(call + ", a body", byShelf.applyAsLong(2), unlike);
        is(call + ", ints", byShelf.applyAsLong(3), unlike);
        is(call + ", of another sort", byShelf.applyAsLong(sort == 0 ? 4 : 5), unlike);
    }

    /** Carried by ten times a skill of 0, 5, 9; ten yards a second. */
    static OutByTurns three() {
        OutByTurns x = new OutByTurns();
        x.jumper(5, 0);
        x.jumper(5, 5);
        x.jumper(5, 9);
        law(x, "s*10");
        x.mend(0, 7, 10);
        return x;
    }

    /** So many who come down where they go out, ten yards a second, all in an order; the field from FROM to TO. */
    static OutByTurns on(int from, int to, int many) {
        OutByTurns x = new OutByTurns();
        for (int number = 0; number < many; number++) {
            x.jumper(5, number);
        }
        law(x, "0");
        x.mend(0, 7, 10);
        x.mend(0, 4, -999);
        x.mend(0, 5, to);
        x.mend(0, 4, from);
        x.row(0, 0, many);
        for (int number = 0; number < many; number++) {
            x.put(0, number, number);
        }
        return x;
    }

    static int yc(int spot, int count) {
        return 100 * (spot + 999) + count;
    }
}
