import java.util.Arrays;
import java.util.function.IntToLongFunction;

/** What all refusals have in common: the end of part 5, and what each promise about a ROW says of SHELVES. */
final class BoundsOfRefusals {
    private static final int YC = Due.yc(0, 5);
    private static final int BYTES = 0, SHORTS = 1;

    private final Says says;

    private BoundsOfRefusals(Says says) {
        this.says = says;
    }

    static void ask(Says says) {
        BoundsOfRefusals bounds = new BoundsOfRefusals(says);
        bounds.numbers();
        bounds.shelvesOfOrders();
        bounds.shelvesOfWhatWasSeen();
        bounds.hostsRefusals();
        bounds.refusedChangesNothing();
    }

    private void numbers() {
        says.part(5, "Answers, of several the one named first: BAD (-1): no such number, or it is not as said; NOT (-2): as told;"
            + " FULL (-3); STATE (-5): as told; -11 to -14.");
        says.is("BAD", OutByTurns.BAD, -1);
        says.is("NOT", OutByTurns.NOT, -2);
        says.is("FULL", OutByTurns.FULL, -3);
        says.is("STATE", OutByTurns.STATE, -5);
        says.part(5, "VOID is -2000000000.");
        says.is("VOID", OutByTurns.VOID, -2000000000);
    }

    /** A call that wants a ROW of one sort on its SHELF, asked of each SHELF there is not, and of all that one may hold. */
    private void wants(OutByTurns x, int sort, IntToLongFunction byShelf) {
        int[] noShelves = {-1, 6, Integer.MIN_VALUE, Integer.MAX_VALUE};
        for (int shelf : noShelves) {
            says.is("SHELF " + shelf, byShelf.applyAsLong(shelf), OutByTurns.BAD);
        }
        x.keep(1, -1);
        says.is("nothing", byShelf.applyAsLong(1), -11);
        x.keep(1, 0);
        says.is("a BODY", byShelf.applyAsLong(1), -12);
        for (int other = 0; other <= 4; other++) {
            if (other != sort) {
                x.row(1, other, 1);
                says.is("a ROW of sort " + other, byShelf.applyAsLong(1), -12);
            }
        }
        x.row(1, sort, 1);
        says.holds("its own sort", byShelf.applyAsLong(1) >= 0);
    }

    private void shelvesOfOrders() {
        OutByTurns x = Due.on(-99, 300, 2);
        x.body(0);
        says.promise(10, "BAD, -11, -12 (no ROW of bytes).");
        wants(x, BYTES, shelf -> x.drop(shelf, YC, 0));
        says.promise(12, "BAD, -11, -12.");
        wants(x, BYTES, shelf -> x.countFor(shelf, 0, 0));
        says.promise(14, "BAD, -11, -12.");
        wants(x, BYTES, shelf -> x.pass(shelf, 5, 0));
        wants(x, BYTES, shelf -> x.pass(shelf, 5, 1));
        says.promise(15, "BAD, -11, -12.");
        wants(x, BYTES, shelf -> x.runIn(shelf, 5));
        says.promise(16, "BAD, -11, -12; NOT.");
        wants(x, BYTES, shelf -> x.room(shelf));
        says.promise(17, "BAD, -11, -12; NOT");
        wants(x, BYTES, shelf -> x.last(shelf, YC));
        says.promise(18, "BAD, -11, -12;");
        wants(x, BYTES, shelf -> x.sticks(shelf, YC, 1, 0));
        says.promise(26, "BAD, -11, -12.");
        wants(x, BYTES, shelf -> x.drawn(shelf, 0, YC, 10));
    }

    private void shelvesOfWhatWasSeen() {
        OutByTurns x = Due.on(-99, 300, 2);
        x.body(0);
        says.promise(25, "BAD, -11, -12.");
        wants(x, SHORTS, shelf -> x.which(shelf, YC, 0));
        says.promise(23, "BAD, -11, -12; NOT.");
        Due.seen(x, 2, 1);
        wants(x, BYTES, shelf -> x.judge(shelf < 0 ? -8 : shelf > 5 ? 62 : 10 * shelf + 2, YC));
        Due.seen(x, 1, 1);
        wants(x, SHORTS, shelf -> x.judge(shelf < 0 ? -1 : shelf > 5 ? 6 : shelf, Due.yc(1, 5)));
    }

    private void hostsRefusals() {
        OutByTurns x = new OutByTurns();
        x.body(0);
        says.part(5, "-11 nothing is there where something is wanted; -12 it is of another kind; -13 a place that is not there;"
            + " -14 a size below 0.");
        says.is("nothing", x.put(0, 0, 1), -11);
        x.keep(0, 0);
        says.is("a BODY", x.put(0, 0, 1), -12);
        x.row(0, 0, 2);
        says.is("a place", x.put(0, 1, 1), 1);
        says.is("no place", x.put(0, 2, 1), -13);
        says.is("a size", x.row(0, 0, 0), 1);
        says.is("a size below 0", x.row(0, 0, -1), -14);
    }

    private static OutByTurns settled() {
        OutByTurns x = Due.three();
        x.body(7);
        x.body(4);
        x.act(0, 3, 5);
        Due.order(x, 0, 2, 0, 1);
        Due.seen(x, 1, 90, 50);
        x.keep(2, 1);
        Due.row(x, 3, 3, 1, 2, 3);
        x.begin(10);
        x.go(1, 2);
        x.image();
        x.go(0, 3);
        x.mend(0, 8, 3);
        x.mend(0, 9, 4);
        x.undo();
        x.feed('w');
        return x;
    }

    /** All that can be seen, at last by what takes things back and on: so it is asked of an object once. */
    private static long[] seenOf(OutByTurns x) {
        long[] seen = new long[12 + 12 + 5 + 6 + 24 + 6 * 60 + 40];
        int at = 0;
        for (int what = 0; what <= 11; what++) {
            seen[at++] = x.of(0, what);
            seen[at++] = x.of(2, what);
        }
        for (int what = 0; what <= 5; what++) {
            seen[at++] = x.count(what);
            seen[at++] = x.led(what);
        }
        for (int i = 0; i < 24; i++) {
            seen[at++] = x.trace(i);
        }
        for (int shelf = 0; shelf <= 5; shelf++) {
            seen[at++] = x.taken(shelf, 0);
            for (int i = 0; i < 6; i++) {
                seen[at++] = x.element(shelf, i);
            }
        }
        seen[at++] = x.redo();
        seen[at++] = x.of(0, 9);
        seen[at++] = x.carried(2);
        seen[at++] = x.law();
        seen[at++] = x.carried(2);
        seen[at++] = x.go(2, 0);
        seen[at++] = x.over();
        seen[at++] = x.back();
        seen[at++] = x.go(0, 1);
        seen[at++] = x.over();
        return seen;
    }

    private void refusedChangesNothing() {
        OutByTurns x = settled();
        says.part(5, "What is answered so changes nothing.");
        refuse(x);
        refuseInDeed(x);
        refuseShelves(x);
        says.holds("all is as in one that refused nothing", Arrays.equals(seenOf(x), seenOf(settled())));
    }

    private void refuse(OutByTurns x) {
        says.is("jumper", x.jumper(0, 0), OutByTurns.BAD);
        says.is("jumpers", x.jumpers(1, 0, 1), -12);
        says.is("jumpers of a missing row", x.jumpers(5, 0, 1), 0);
        says.is("mend", x.mend(0, 8, 31), -3000);
        says.is("feed", x.feed(256), OutByTurns.BAD);
        says.is("spotFor", x.spotFor(0, 21, 0), OutByTurns.VOID);
        says.is("countFor", x.countFor(4, 0, 0), -11);
        says.is("orderFor", x.orderFor(YC, 3), OutByTurns.NOT);
        says.is("runIn", x.runIn(1, 5), -12);
        says.is("last", x.last(4, YC), -11);
        says.is("sticks", x.sticks(0, YC, 301, 0), OutByTurns.BAD);
        says.is("windBy", x.windBy(0, 8), OutByTurns.NOT);
        says.is("which", x.which(0, YC, 0), -12);
        says.is("drawn", x.drawn(0, 1, YC, 210), OutByTurns.BAD);
    }

    private void refuseInDeed(OutByTurns x) {
        says.is("begin", x.begin(0), OutByTurns.VOID);
        says.is("go of one who has gone", x.go(1, 5), OutByTurns.VOID);
        says.is("go so late", x.go(2, 21), OutByTurns.VOID);
        says.is("go of nobody", x.go(3, 5), OutByTurns.VOID);
        says.is("led", x.led(6), OutByTurns.VOID);
        says.is("trace", x.trace(24), OutByTurns.BAD);
        says.is("count", x.count(5), OutByTurns.BAD);
        OutByTurns y = new OutByTurns();
        says.is("go, no drop is on", y.go(0, 5), OutByTurns.VOID);
        says.is("over, no drop is on", y.over(), OutByTurns.STATE);
        says.is("back, no image", y.back(), OutByTurns.STATE);
        says.is("undo, none", y.undo(), OutByTurns.STATE);
        says.is("redo, none", y.redo(), OutByTurns.STATE);
        says.holds("all is as in a new one", Arrays.equals(seenOf(y), seenOf(new OutByTurns())));
    }

    private void refuseShelves(OutByTurns x) {
        says.is("body", x.body(8), OutByTurns.BAD);
        says.is("keep", x.keep(3, 2), OutByTurns.BAD);
        says.is("row of no sort", x.row(3, 5, 1), OutByTurns.BAD);
        says.is("row too long", x.row(3, 3, 61), OutByTurns.BAD);
        says.is("row too short", x.row(3, 3, -1), -14);
        says.is("put", x.put(3, 3, 9), -13);
        says.is("shift too much", x.shift(3, 0, 3, 1, 3), -13);
        says.is("shift of unlike sorts", x.shift(0, 0, 1, 0, 1), -12);
        says.is("taken", x.taken(2, 6), -12);
    }
}
