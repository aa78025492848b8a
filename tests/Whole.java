import java.util.ArrayDeque;
import java.util.ArrayList;
import java.util.Arrays;
import java.util.Deque;
import java.util.List;

/** A whole object once more: the document's face, each call by its promise, in the plainest way. */
final class Whole {
    private static final int BAD = -1, NOT = -2, FULL = -3, STATE = -5, VOID = -2000000000;
    private static final int BYTES = 0, SHORTS = 1;

    private record Row(int sort, long[] elements) {
    }

    private record Change(int number, int what, int was, int became) {
    }

    /** All that an image keeps. */
    private static final class Deed {
        boolean on;
        int now;
        int second;
        List<Integer> gone = new ArrayList<>();
        List<Model.Out> outs = new ArrayList<>();
        int drops;
        int jumps;
        int good;
        int farthest;
        int who = NOT;

        Deed copy() {
            Deed copy = new Deed();
            copy.on = on;
            copy.now = now;
            copy.second = second;
            copy.gone = new ArrayList<>(gone);
            copy.outs = new ArrayList<>(outs);
            copy.drops = drops;
            copy.jumps = jumps;
            copy.good = good;
            copy.farthest = farthest;
            copy.who = who;
            return copy;
        }
    }

    private final Model model = new Model();
    private final StringBuilder tape = new StringBuilder();
    // Nothing, a body's number, or a Row.
    private final Object[] shelves = new Object[6];
    private final List<Integer> kinds = new ArrayList<>();
    private List<Integer> trace = new ArrayList<>();
    private final Deque<Change> done = new ArrayDeque<>();
    private final Deque<Change> undone = new ArrayDeque<>();
    private Deed deed = new Deed();
    private Deed kept;

    private static boolean in(int v, int least, int most) {
        return least <= v && v <= most;
    }

    // ---- jumpers, winds

    public int jumper(int weight, int skill) {
        return come(weight, skill, 0);
    }

    private int come(int weight, int skill, int square) {
        if (!in(weight, 1, 9) || !in(skill, 0, 9) || !in(square, 0, 1)) {
            return BAD;
        }
        if (model.jumpers.size() == 7) {
            return FULL;
        }
        model.jumpers.add(new int[] {weight, skill, square, 0});
        return model.jumpers.size() - 1;
    }

    public int jumpers(int shelf, int i, int n) {
        if (!in(shelf, 0, 5) || !in(n, 1, 7)) {
            return BAD;
        }
        if (shelves[shelf] == null) {
            return 0;
        }
        if (refusal(shelf, BYTES) != 0) {
            return -12;
        }
        long[] row = ((Row) shelves[shelf]).elements();
        int came = 0;
        for (long at = i; came < n && at >= 0 && at + 2 < row.length; at += 3) {
            if (come((int) row[(int) at], (int) row[(int) at + 1], (int) row[(int) at + 2]) < 0) {
                break;
            }
            came++;
        }
        return came;
    }

    private boolean fits(int what, int v) {
        return switch (what) {
            case 0, 10 -> in(v, 1, 9);
            case 1 -> in(v, 0, 9);
            case 2, 11 -> in(v, 0, 1);
            case 3 -> in(v, 0, 12);
            case 4 -> in(v, -999, model.field[1]);
            case 5 -> in(v, model.field[0], 999);
            case 6 -> v == VOID || in(v, -999, 999);
            case 7 -> in(v, 1, 99);
            default -> in(v, -30, 30);
        };
    }

    private void tell(int number, int what, int v) {
        if (what < 4) {
            model.jumpers.get(number)[what] = v;
        } else {
            model.field[what - 4] = v;
        }
    }

    public int mend(int number, int what, int v) {
        int was = of(number, what);
        if (was == -3000 || !fits(what, v)) {
            return -3000;
        }
        if (was != v) {
            tell(number, what, v);
            done.addLast(new Change(number, what, was, v));
            if (done.size() > 40) {
                done.removeFirst();
            }
            undone.clear();
        }
        return was;
    }

    public int of(int number, int what) {
        if (in(what, 0, 3) && in(number, 0, model.jumpers.size() - 1)) {
            return model.jumpers.get(number)[what];
        }
        return in(what, 4, 11) && number == 0 ? model.field[what - 4] : -3000;
    }

    public int feed(int letter) {
        if (!in(letter, 0, 255)) {
            return BAD;
        }
        if (tape.length() == 120) {
            return FULL;
        }
        return tape.append((char) letter).length();
    }

    public int law() {
        String text = tape.toString();
        tape.setLength(0);
        int fault = Model.fault(text);
        if (fault >= 0) {
            return -100 - fault;
        }
        model.law = text;
        return 1;
    }

    public int carried(int jumper) {
        return in(jumper, 0, model.jumpers.size() - 1) ? model.carried(jumper) : VOID;
    }

    // ---- drops in thought

    private static int spotOf(int yc) {
        return Math.floorDiv(yc, 100) - 999;
    }

    private static int countOf(int yc) {
        return Math.floorMod(yc, 100);
    }

    private static boolean wrong(int yc) {
        return !in(spotOf(yc), -999, 999) || !in(countOf(yc), 1, 20);
    }

    private int refusal(int shelf, int sort) {
        if (!in(shelf, 0, 5)) {
            return BAD;
        }
        if (shelves[shelf] == null) {
            return -11;
        }
        return shelves[shelf] instanceof Row row && row.sort() == sort ? 0 : -12;
    }

    private List<Integer> order(int shelf) {
        return model.order(((Row) shelves[shelf]).elements());
    }

    private List<Model.Out> drop(int shelf, int yc) {
        return model.drop(order(shelf), spotOf(yc), countOf(yc), model.field[7]);
    }

    public int down(int shelf, int yc, int k) {
        if (wrong(yc) || refusal(shelf, BYTES) != 0 || !in(k, 0, order(shelf).size() - 1)) {
            return VOID;
        }
        return drop(shelf, yc).get(k).down();
    }

    public int drop(int shelf, int yc, int what) {
        if (wrong(yc) || !in(what, 0, 2)) {
            return BAD;
        }
        int refusal = refusal(shelf, BYTES);
        return refusal != 0 ? refusal : model.tally(drop(shelf, yc))[what];
    }

    public int spotFor(int shelf, int count, int what) {
        if (!in(count, 1, 20) || !in(what, 0, 1) || refusal(shelf, BYTES) != 0) {
            return VOID;
        }
        return model.spotFor(order(shelf), count, model.field[7])[what];
    }

    public int countFor(int shelf, int spot, int what) {
        if (!in(spot, -999, 999) || !in(what, 0, 1)) {
            return BAD;
        }
        int refusal = refusal(shelf, BYTES);
        return refusal != 0 ? refusal : model.countFor(order(shelf), spot)[what];
    }

    public int orderFor(int yc, int k) {
        if (wrong(yc) || k < -1) {
            return BAD;
        }
        if (model.jumpers.size() > 5) {
            return STATE;
        }
        List<Integer> best = model.orderFor(spotOf(yc), countOf(yc));
        if (k >= best.size()) {
            return NOT;
        }
        List<Model.Out> outs = model.drop(best, spotOf(yc), countOf(yc), model.field[7]);
        return k == -1 ? model.good(outs) : best.get(k);
    }

    public int pass(int shelf, int count, int what) {
        if (!in(count, 1, 20) || !in(what, 0, 1)) {
            return BAD;
        }
        int refusal = refusal(shelf, BYTES);
        if (refusal != 0) {
            return refusal;
        }
        return what == 0 ? model.inOnePass(order(shelf), count) : model.passes(order(shelf), count);
    }

    public int runIn(int shelf, int count) {
        if (!in(count, 1, 20)) {
            return BAD;
        }
        int refusal = refusal(shelf, BYTES);
        return refusal != 0 ? refusal : model.runIn(order(shelf), count);
    }

    public int room(int shelf) {
        int refusal = refusal(shelf, BYTES);
        return refusal != 0 ? refusal : model.room(order(shelf));
    }

    public int last(int shelf, int yc) {
        int refusal = wrong(yc) ? BAD : refusal(shelf, BYTES);
        return refusal != 0 ? refusal : model.last(order(shelf), spotOf(yc), countOf(yc));
    }

    // ---- who sticks, paper, drops seen

    public int sticks(int shelf, int yc, int kn, int what) {
        if (wrong(yc) || kn < 0 || !in(kn % 100, 1, 20) || !in(what, 0, 1)) {
            return BAD;
        }
        int refusal = refusal(shelf, BYTES);
        if (refusal != 0) {
            return refusal;
        }
        List<Integer> order = order(shelf);
        if (kn / 100 >= order.size()) {
            return BAD;
        }
        int waiting = model.sticks(order, spotOf(yc), countOf(yc), kn / 100, kn % 100);
        if (what == 0) {
            return waiting;
        }
        return model.pushed(order, spotOf(yc), countOf(yc), kn / 100) > waiting ? 1 : 0;
    }

    public long sure(int shelf, int part) {
        return !in(part, 0, 1) || refusal(shelf, BYTES) != 0 ? Long.MIN_VALUE : model.sure(order(shelf))[part];
    }

    public long mean(int shelf, int yc, int n, int part) {
        if (wrong(yc) || !in(n, 1, 20) || !in(part, 0, 1) || refusal(shelf, BYTES) != 0) {
            return Long.MIN_VALUE;
        }
        return model.mean(order(shelf), spotOf(yc), countOf(yc), n)[part];
    }

    public int paper(int y) {
        return in(y, -999, 999) ? y + model.field[6] * (model.field[4] + model.field[5]) : VOID;
    }

    public int windBy(int y, int x) {
        return in(y, -999, 999) && in(x, -999, 999) ? model.windBy(y, x) : BAD;
    }

    private int refusalOfBoth(int so) {
        int order = Math.floorDiv(so, 10);
        int seen = Math.floorMod(so, 10);
        List<Integer> both = List.of(refusal(order, BYTES), refusal(seen, SHORTS));
        return both.contains(BAD) ? BAD : both.contains(-11) ? -11 : both.contains(-12) ? -12 : 0;
    }

    private List<Integer> seen(int shelf) {
        return Arrays.stream(((Row) shelves[shelf]).elements()).mapToInt(v -> (int) v).boxed().toList();
    }

    public int judge(int so, int yc) {
        int refusal = wrong(yc) ? BAD : refusalOfBoth(so);
        return refusal != 0 ? refusal : model.judge(order(so / 10), seen(so % 10), spotOf(yc), countOf(yc));
    }

    public int fromWhere(int so, int count) {
        if (!in(count, 1, 20) || refusalOfBoth(so) != 0) {
            return VOID;
        }
        return model.fromWhere(order(so / 10), seen(so % 10), count);
    }

    public int which(int shelf, int yc, int what) {
        int refusal = wrong(yc) || !in(what, 0, 1) ? BAD : refusal(shelf, SHORTS);
        return refusal != 0 ? refusal : model.which(seen(shelf), spotOf(yc), countOf(yc))[what];
    }

    public int drawn(int shelf, int seed, int yc, int nw) {
        if (wrong(yc) || !in(Math.floorDiv(nw, 10), 1, 20) || !in(Math.floorMod(nw, 10), 0, 1)) {
            return BAD;
        }
        int refusal = refusal(shelf, BYTES);
        return refusal != 0 ? refusal : model.drawn(order(shelf), seed, spotOf(yc), countOf(yc), nw / 10)[nw % 10];
    }

    // ---- in deed

    public int begin(int spot) {
        if (!in(spot, -999, 999) || deed.on) {
            return VOID;
        }
        deed.on = true;
        deed.now = spot;
        deed.second = 0;
        deed.gone.clear();
        deed.outs.clear();
        return spot;
    }

    public int go(int jumper, int n) {
        if (carried(jumper) == VOID || !in(n, 0, 20) || !deed.on || deed.gone.contains(jumper)) {
            return VOID;
        }
        deed.second += n;
        deed.now += (model.field[7] == 0 ? n : -n) * model.field[3];
        int down = deed.now + carried(jumper);
        deed.gone.add(jumper);
        deed.outs.add(new Model.Out(deed.second, down));
        deed.jumps++;
        int far = Math.abs(down - (model.field[0] + model.field[1]) / 2);
        if (deed.jumps == 1 || far > deed.farthest) {
            deed.farthest = far;
            deed.who = jumper;
        }
        return down;
    }

    public int over() {
        if (!deed.on) {
            return STATE;
        }
        deed.on = false;
        deed.drops++;
        deed.good += model.good(deed.outs);
        return model.good(deed.outs);
    }

    public int led(int what) {
        return switch (what) {
            case 0 -> deed.drops;
            case 1 -> deed.jumps;
            case 2 -> deed.good;
            case 3 -> deed.farthest;
            case 4 -> deed.who;
            case 5 -> deed.on ? deed.now : VOID;
            default -> VOID;
        };
    }

    public int image() {
        kept = deed.copy();
        return deed.drops;
    }

    public int back() {
        if (kept == null) {
            return STATE;
        }
        deed = kept.copy();
        return deed.drops;
    }

    public int undo() {
        if (done.isEmpty()) {
            return STATE;
        }
        Change change = done.removeLast();
        tell(change.number(), change.what(), change.was());
        undone.push(change);
        return done.size();
    }

    public int redo() {
        if (undone.isEmpty()) {
            return STATE;
        }
        Change change = undone.pop();
        tell(change.number(), change.what(), change.became());
        done.addLast(change);
        return undone.size();
    }

    // ---- acts, shelves

    public int body(int kind) {
        if (!in(kind, 0, 7)) {
            return BAD;
        }
        if (kinds.size() == 50) {
            return FULL;
        }
        kinds.add(kind);
        return kinds.size() - 1;
    }

    public int act(int body, int act, int x) {
        trace = new ArrayList<>();
        if (!in(body, 0, kinds.size() - 1) || !in(act, 0, 3)) {
            return 0;
        }
        return new Ways(body, kinds.get(body), trace).of(act, x);
    }

    public int trace(int i) {
        return in(i, 0, Math.min(24, trace.size()) - 1) ? trace.get(i) : BAD;
    }

    public int keep(int shelf, int body) {
        if (!in(shelf, 0, 5) || !in(body, -1, kinds.size() - 1)) {
            return BAD;
        }
        shelves[shelf] = body == -1 ? null : (Object) body;
        return 1;
    }

    public int row(int shelf, int sort, int n) {
        if (!in(shelf, 0, 5) || !in(sort, 0, 4) || n > 60) {
            return BAD;
        }
        if (n < 0) {
            return -14;
        }
        shelves[shelf] = new Row(sort, new long[n]);
        return 1;
    }

    private int refusalOfPlace(int shelf, int i) {
        if (!in(shelf, 0, 5)) {
            return BAD;
        }
        if (shelves[shelf] == null) {
            return -11;
        }
        if (!(shelves[shelf] instanceof Row row)) {
            return -12;
        }
        return in(i, 0, row.elements().length - 1) ? 0 : -13;
    }

    public int put(int shelf, int i, long v) {
        int refusal = refusalOfPlace(shelf, i);
        if (refusal != 0) {
            return refusal;
        }
        Row row = (Row) shelves[shelf];
        row.elements()[i] = switch (row.sort()) {
            case 0 -> (byte) v;
            case 1 -> (short) v;
            case 2 -> (int) v;
            case 3 -> v;
            default -> v == 0 ? 0 : 1;
        };
        return 1;
    }

    public long element(int shelf, int i) {
        return refusalOfPlace(shelf, i) != 0 ? Long.MIN_VALUE : ((Row) shelves[shelf]).elements()[i];
    }

    public int shift(int shelf, int i, int other, int j, int n) {
        if (!in(shelf, 0, 5) || !in(other, 0, 5)) {
            return BAD;
        }
        if (shelves[shelf] == null || shelves[other] == null) {
            return -11;
        }
        if (!(shelves[shelf] instanceof Row from) || !(shelves[other] instanceof Row to) || from.sort() != to.sort()) {
            return -12;
        }
        if (n < 0 || !holds(from, i, n) || !holds(to, j, n)) {
            return -13;
        }
        long[] moved = Arrays.copyOfRange(from.elements(), i, i + n);
        for (int k = 0; k < n; k++) {
            to.elements()[j + k] = moved[k];
        }
        return n;
    }

    private static boolean holds(Row row, int from, int n) {
        return from >= 0 && (long) from + n <= row.elements().length;
    }

    public int taken(int shelf, int k) {
        if (!in(shelf, 0, 5) || !in(k, 0, 7)) {
            return BAD;
        }
        if (shelves[shelf] == null) {
            return -11;
        }
        if (!(shelves[shelf] instanceof Integer body)) {
            return -12;
        }
        return Ways.line(kinds.get(body)).contains(k) ? kinds.get(body) : -12;
    }

    public int count(int what) {
        return switch (what) {
            case 0 -> model.jumpers.size();
            case 1 -> tape.length();
            case 2 -> done.size();
            case 3 -> kinds.size();
            case 4 -> trace.size();
            default -> BAD;
        };
    }
}
