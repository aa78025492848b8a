import java.util.Arrays;

/**
 * Jumpers going out of a small aeroplane's door by turns: where each comes down, who meets whom,
 * who misses the field. ../shared/DOC.md says what every call answers.
 */
public final class OutByTurns {
    public static final int BAD = -1, NOT = -2, FULL = -3, STATE = -5, VOID = -2000000000;

    private static final int MISSING = -11, UNLIKE = -12, NO_PLACE = -13, SIZE_BELOW_ZERO = -14;
    private static final int NO_NUMBER = -3000;
    private static final int FAULTS_FROM = -100;
    private static final long NO_LONG = -9223372036854775808L;

    private static final int MOST_JUMPERS = 7;
    private static final int FARTHEST_YARD = 999;
    private static final int MOST_SECONDS = 20;
    private static final int MOST_WIND = 30;
    private static final int MOST_CARRIED = 500;
    private static final int TWELVE = 12;

    private static final int MOST_IN_ORDER_FOR = 5;
    private static final int MOST_IN_MEAN = 5;
    private static final int MOST_IN_WHICH = 4;
    private static final int MOST_DRAWN = 20;
    private static final int SECONDS_WHEN_DRAWN = 5;
    private static final int MOST_STEPS_OF_EUCLID = 200;

    // What mend() and of() call a number by.
    private static final int WEIGHT = 0, SKILL = 1, SQUARE = 2, STICKS = 3;
    private static final int FROM = 4, TO = 5, WIRE = 6, SPEED = 7;
    private static final int ABOVE = 8, BELOW = 9, HEIGHT = 10, RUN_IN = 11;

    // What a SHELF holds: a sort of ROW, or one of these two.
    private static final int NOTHING = -1, A_BODY = -2;
    private static final int BYTES = 0, SHORTS = 1, INTS = 2, BOOLEANS = 4;

    private final Numbers numbers;
    private final Changes changes;
    private final Text tape;
    private final Text lawText;
    private final Shelves shelves;
    private final Order order;
    private final int[] carries;
    private final Jumps jumps;
    private final Deed deed;
    private final Deed picture;
    private boolean pictured;
    private final Acts acts;

    public OutByTurns() {
        numbers = new Numbers();
        changes = new Changes(numbers);
        tape = new Text();
        lawText = new Text();
        shelves = new Shelves();
        order = new Order();
        carries = new int[MOST_JUMPERS];
        jumps = new Jumps(numbers);
        deed = new Deed(numbers);
        picture = new Deed(numbers);
        acts = new Acts();
    }

    // ---- jumpers, winds

    public int jumper(int weight, int skill) {
        if (!numbers.fits(WEIGHT, weight) || !numbers.fits(SKILL, skill)) {
            return BAD;
        }
        return numbers.welcome(weight, skill, 0);
    }

    public int jumpers(int shelf, int i, int n) {
        if (!shelves.isThere(shelf) || n < 1 || n > MOST_JUMPERS) {
            return BAD;
        }
        int held = shelves.holds(shelf);
        if (held != NOTHING && held != BYTES) {
            return UNLIKE;
        }
        int came = 0;
        while (came < n && comesFromRow(shelf, i + 3 * came)) {
            came++;
        }
        return came;
    }

    private boolean comesFromRow(int shelf, int place) {
        if (place < 0 || place > shelves.size(shelf) - 3) {
            return false;
        }
        int weight = (int) shelves.cell(shelf, place);
        int skill = (int) shelves.cell(shelf, place + 1);
        int square = (int) shelves.cell(shelf, place + 2);
        if (!numbers.fits(WEIGHT, weight) || !numbers.fits(SKILL, skill) || !numbers.fits(SQUARE, square)) {
            return false;
        }
        return numbers.welcome(weight, skill, square) != FULL;
    }

    public int mend(int number, int what, int v) {
        if (!numbers.isThere(number, what) || !numbers.fits(what, v)) {
            return NO_NUMBER;
        }
        int was = numbers.told(number, what);
        if (was != v) {
            changes.note(number, what, v);
            numbers.tell(number, what, v);
        }
        return was;
    }

    public int of(int number, int what) {
        return numbers.isThere(number, what) ? numbers.told(number, what) : NO_NUMBER;
    }

    public int feed(int letter) {
        return letter < 0 || letter > 255 ? BAD : tape.append(letter);
    }

    public int law() {
        int fault = tape.fault();
        if (fault == NOT) {
            lawText.become(tape);
        }
        tape.clear();
        return fault == NOT ? 1 : FAULTS_FROM - fault;
    }

    public int carried(int jumper) {
        return numbers.isJumper(jumper) ? yardsCarried(jumper) : VOID;
    }

    private int yardsCarried(int jumper) {
        int weight = numbers.told(jumper, WEIGHT);
        int skill = numbers.told(jumper, SKILL);
        int square = numbers.told(jumper, SQUARE);
        int above = numbers.told(0, ABOVE);
        int below = numbers.told(0, BELOW);
        int height = numbers.told(0, HEIGHT);
        int yards = lawText.size() > 0
                ? lawText.worth(weight, skill, square, above, below, height)
                : height * (above + below) - height * weight - steered(skill, square, below);
        return Math.max(-MOST_CARRIED, Math.min(MOST_CARRIED, yards));
    }

    private static int steered(int skill, int square, int below) {
        if (square == 0 || below == 0) {
            return 0;
        }
        return below > 0 ? skill * 5 : -skill * 5;
    }

    // ---- drops in thought

    private static boolean isYard(int yard) {
        return yard >= -FARTHEST_YARD && yard <= FARTHEST_YARD;
    }

    private static boolean isCount(int count) {
        return count >= 1 && count <= MOST_SECONDS;
    }

    private static boolean isSpotAndCount(int yc) {
        return yc >= 0 && yc / 100 <= 2 * FARTHEST_YARD && isCount(yc % 100);
    }

    private static int spotOf(int yc) {
        return yc / 100 - FARTHEST_YARD;
    }

    private static int countOf(int yc) {
        return yc % 100;
    }

    private static boolean isPart(int part) {
        return part == 0 || part == 1;
    }

    /** Takes the ORDER from a SHELF; 0, or why there is none. */
    private int readOrder(int shelf) {
        int refused = shelves.refusal(shelf, BYTES);
        if (refused != 0) {
            return refused;
        }
        order.clear();
        for (int i = 0; i < shelves.size(shelf); i++) {
            int who = (int) shelves.cell(shelf, i);
            if (!numbers.isJumper(who) || order.has(who)) {
                break;
            }
            order.append(who);
        }
        weighAll();
        return 0;
    }

    /** Once a call, not once a drop: the searches ask for the same jumpers thousands of times. */
    private void weighAll() {
        for (int who = 0; who < carries.length && who < numbers.jumpersThere(); who++) {
            carries[who] = yardsCarried(who);
        }
    }

    private int carriedOf(int who) {
        return who >= 0 && who < carries.length ? carries[who] : 0;
    }

    private int way() {
        return numbers.told(0, RUN_IN);
    }

    private int ahead(int seconds, int way) {
        int yards = numbers.told(0, SPEED) * seconds;
        return way == 0 ? yards : -yards;
    }

    private void sendOut(int k, int second, int way) {
        jumps.join(second, ahead(second, way) + carriedOf(order.at(k)));
    }

    private void lineUp(int count, int way) {
        jumps.clear();
        for (int k = 0; k < order.size(); k++) {
            sendOut(k, k * count, way);
        }
    }

    /** One who stops makes all behind it late, too; stops has a bit for each who does. */
    private int goodIfStopped(int many, int stops, int seconds, int yc) {
        jumps.clear();
        int late = 0;
        for (int k = 0; k < many; k++) {
            if ((stops >> k & 1) != 0) {
                late += seconds;
            }
            sendOut(k, k * countOf(yc) + late, way());
        }
        return jumps.good(spotOf(yc));
    }

    /** The SPOT for those lined up; from 0 outward, below first, so the first of like ones is the due one. */
    private int bestSpot() {
        int best = 0;
        int most = jumps.good(0);
        for (int far = 1; far <= FARTHEST_YARD && most < jumps.size(); far++) {
            int below = jumps.good(-far);
            int above = jumps.good(far);
            if (below > most || above > most) {
                best = above > below ? far : -far;
                most = Math.max(above, below);
            }
        }
        return best;
    }

    private int goodByBestSpot() {
        return jumps.good(bestSpot());
    }

    public int down(int shelf, int yc, int k) {
        if (!isSpotAndCount(yc) || readOrder(shelf) != 0 || k < 0 || k >= order.size()) {
            return VOID;
        }
        lineUp(countOf(yc), way());
        return jumps.downOf(k, spotOf(yc));
    }

    public int drop(int shelf, int yc, int what) {
        if (!isSpotAndCount(yc) || what < 0 || what > 2) {
            return BAD;
        }
        int refused = readOrder(shelf);
        if (refused != 0) {
            return refused;
        }
        lineUp(countOf(yc), way());
        if (what == 0) {
            return jumps.well(spotOf(yc));
        }
        return what == 1 ? jumps.meeting() : jumps.good(spotOf(yc));
    }

    public int spotFor(int shelf, int count, int what) {
        if (!isCount(count) || !isPart(what) || readOrder(shelf) != 0) {
            return VOID;
        }
        lineUp(count, way());
        int spot = bestSpot();
        return what == 0 ? jumps.good(spot) : spot;
    }

    public int countFor(int shelf, int spot, int what) {
        if (!isYard(spot) || !isPart(what)) {
            return BAD;
        }
        int refused = readOrder(shelf);
        if (refused != 0) {
            return refused;
        }
        int best = 1;
        int most = -1;
        for (int count = 1; count <= MOST_SECONDS; count++) {
            lineUp(count, way());
            int good = jumps.good(spot);
            if (good > most) {
                most = good;
                best = count;
            }
        }
        return what == 0 ? best : most;
    }

    public int orderFor(int yc, int k) {
        if (!isSpotAndCount(yc) || k < -1) {
            return BAD;
        }
        int there = numbers.jumpersThere();
        if (there > MOST_IN_ORDER_FOR) {
            return STATE;
        }
        if (k >= there) {
            return NOT;
        }
        weighAll();
        int most = -1;
        int best = 0;
        int codes = Order.power(there, there);
        for (int code = 0; code < codes; code++) {
            if (order.spell(code, there, there)) {
                lineUp(countOf(yc), way());
                int good = jumps.good(spotOf(yc));
                if (good > most) {
                    most = good;
                    best = code;
                }
            }
        }
        if (k == -1) {
            return most;
        }
        order.spell(best, there, there);
        return order.at(k);
    }

    public int pass(int shelf, int count, int what) {
        if (!isCount(count) || !isPart(what)) {
            return BAD;
        }
        int refused = readOrder(shelf);
        if (refused != 0) {
            return refused;
        }
        return what == 0 ? inOnePass(0, count) : passes(count);
    }

    /** Whoever is GOOD among more is GOOD among fewer, so the first that does not fit in ends the search. */
    private int inOnePass(int first, int count) {
        jumps.clear();
        for (int k = first; k < order.size(); k++) {
            sendOut(k, (k - first) * count, way());
            if (jumps.meeting() > 0 || goodByBestSpot() < jumps.size()) {
                return k - first;
            }
        }
        return order.size() - first;
    }

    private int passes(int count) {
        int gone = 0;
        int passes = 0;
        while (gone < order.size()) {
            int more = inOnePass(gone, count);
            if (more < 1) {
                return NOT;
            }
            gone += more;
            passes++;
        }
        return passes;
    }

    public int runIn(int shelf, int count) {
        if (!isCount(count)) {
            return BAD;
        }
        int refused = readOrder(shelf);
        if (refused != 0) {
            return refused;
        }
        lineUp(count, 0);
        int upward = goodByBestSpot();
        lineUp(count, 1);
        return goodByBestSpot() > upward ? 1 : 0;
    }

    public int room(int shelf) {
        int refused = readOrder(shelf);
        if (refused != 0) {
            return refused;
        }
        for (int count = 1; count <= MOST_SECONDS; count++) {
            lineUp(count, way());
            if (jumps.meeting() == 0) {
                return count;
            }
        }
        return NOT;
    }

    public int last(int shelf, int yc) {
        if (!isSpotAndCount(yc)) {
            return BAD;
        }
        int refused = readOrder(shelf);
        if (refused != 0) {
            return refused;
        }
        int out = spotOf(yc) + ahead((order.size() - 1) * countOf(yc), way());
        int best = NOT;
        int nearest = 0;
        for (int who = 0; who < numbers.jumpersThere(); who++) {
            int far = numbers.fromMiddle(out + carriedOf(who));
            if (order.has(who) && (best == NOT || far < nearest)) {
                best = who;
                nearest = far;
            }
        }
        return best;
    }

    // ---- who sticks, paper, drops seen

    public int sticks(int shelf, int yc, int kn, int what) {
        if (!isSpotAndCount(yc) || kn < 0 || !isCount(kn % 100) || !isPart(what)) {
            return BAD;
        }
        int refused = readOrder(shelf);
        if (refused != 0) {
            return refused;
        }
        int k = kn / 100;
        if (k >= order.size()) {
            return BAD;
        }
        int waiting = goodIfStopped(order.size(), 1 << k, kn % 100, yc);
        if (what == 0) {
            return waiting;
        }
        return goodWithout(k, yc) > waiting ? 1 : 0;
    }

    private int goodWithout(int left, int yc) {
        jumps.clear();
        for (int k = 0; k < order.size(); k++) {
            if (k != left) {
                sendOut(k, k * countOf(yc), way());
            }
        }
        return jumps.good(spotOf(yc));
    }

    private int sticksOf(int k) {
        return numbers.told(order.at(k), STICKS);
    }

    private static long lowest(long above, long below, int part) {
        long shared = above;
        long rest = below;
        for (int step = 0; step < MOST_STEPS_OF_EUCLID && rest > 0; step++) {
            long next = shared % rest;
            shared = rest;
            rest = next;
        }
        if (shared < 1) {
            return NO_LONG;
        }
        return part == 0 ? above / shared : below / shared;
    }

    public long sure(int shelf, int part) {
        if (!isPart(part) || readOrder(shelf) != 0) {
            return NO_LONG;
        }
        long above = 1;
        for (int k = 0; k < order.size(); k++) {
            above *= TWELVE - sticksOf(k);
        }
        return lowest(above, Order.power(TWELVE, order.size()), part);
    }

    public long mean(int shelf, int yc, int n, int part) {
        if (!isSpotAndCount(yc) || !isCount(n) || !isPart(part) || readOrder(shelf) != 0) {
            return NO_LONG;
        }
        int many = Math.min(MOST_IN_MEAN, order.size());
        long above = 0;
        for (int stops = 0; stops < 1 << many; stops++) {
            long likely = twelfths(many, stops);
            if (likely > 0) {
                above += likely * goodIfStopped(many, stops, n, yc);
            }
        }
        return lowest(above, Order.power(TWELVE, many), part);
    }

    /** Above a line that is 12 to the power of how many go: so all ways to stop add up without fractions. */
    private long twelfths(int many, int stops) {
        long likely = 1;
        for (int k = 0; k < many; k++) {
            boolean stop = (stops >> k & 1) != 0;
            likely *= stop ? sticksOf(k) : TWELVE - sticksOf(k);
        }
        return likely;
    }

    public int paper(int y) {
        if (!isYard(y)) {
            return VOID;
        }
        return y + numbers.told(0, HEIGHT) * (numbers.told(0, ABOVE) + numbers.told(0, BELOW));
    }

    public int windBy(int y, int x) {
        if (!isYard(y) || !isYard(x)) {
            return BAD;
        }
        int height = numbers.told(0, HEIGHT);
        int best = NOT;
        int least = 0;
        for (int above = -MOST_WIND; above <= MOST_WIND; above++) {
            for (int below = -MOST_WIND; below <= MOST_WIND; below++) {
                int both = Math.abs(above) + Math.abs(below);
                if (y + height * (above + below) == x && (best == NOT || both < least)) {
                    best = 100 * (above + MOST_WIND) + below + MOST_WIND;
                    least = both;
                }
            }
        }
        return best;
    }

    /** 0, or why there are not both, an ORDER and what was SEEN. */
    private int refusalOfPair(int so) {
        if (so < 0 || !shelves.isThere(so / 10) || !shelves.isThere(so % 10)) {
            return BAD;
        }
        int held = shelves.holds(so / 10);
        int seen = shelves.holds(so % 10);
        if (held == NOTHING || seen == NOTHING) {
            return MISSING;
        }
        return held == BYTES && seen == SHORTS ? 0 : UNLIKE;
    }

    /** The first of so many SEEN with whom those lined up do not agree; NOT: there is none. */
    private int firstUnlike(int seen, int many, int spot) {
        for (int i = 0; i < many; i++) {
            if (i >= jumps.size() || jumps.downOf(i, spot) != shelves.cell(seen, i)) {
                return i;
            }
        }
        return NOT;
    }

    public int judge(int so, int yc) {
        if (!isSpotAndCount(yc)) {
            return BAD;
        }
        int refused = refusalOfPair(so);
        if (refused != 0) {
            return refused;
        }
        readOrder(so / 10);
        lineUp(countOf(yc), way());
        return firstUnlike(so % 10, shelves.size(so % 10), spotOf(yc));
    }

    public int fromWhere(int so, int count) {
        if (!isCount(count) || refusalOfPair(so) != 0) {
            return VOID;
        }
        readOrder(so / 10);
        lineUp(count, way());
        for (int spot = -FARTHEST_YARD; spot <= FARTHEST_YARD; spot++) {
            if (firstUnlike(so % 10, shelves.size(so % 10), spot) == NOT) {
                return spot;
            }
        }
        return VOID;
    }

    public int which(int shelf, int yc, int what) {
        if (!isSpotAndCount(yc) || !isPart(what)) {
            return BAD;
        }
        int refused = shelves.refusal(shelf, SHORTS);
        if (refused != 0) {
            return refused;
        }
        weighAll();
        int there = numbers.jumpersThere();
        int many = Math.min(MOST_IN_WHICH, shelves.size(shelf));
        int codes = Order.power(there, many);
        int orders = 0;
        int first = NOT;
        for (int code = 0; code < codes; code++) {
            if (order.spell(code, many, there)) {
                lineUp(countOf(yc), way());
                if (firstUnlike(shelf, many, spotOf(yc)) == NOT) {
                    first = orders == 0 ? order.asDigits() : first;
                    orders++;
                }
            }
        }
        return what == 0 ? orders : first;
    }

    public int drawn(int shelf, int seed, int yc, int nw) {
        int n = nw / 10;
        if (!isSpotAndCount(yc) || nw < 0 || n < 1 || n > MOST_DRAWN || !isPart(nw % 10)) {
            return BAD;
        }
        int refused = readOrder(shelf);
        if (refused != 0) {
            return refused;
        }
        int z = seed;
        int good = 0;
        int whole = 0;
        for (int drop = 0; drop < n; drop++) {
            int stops = 0;
            for (int k = 0; k < order.size(); k++) {
                z = z * 1103515245 + 12345;
                if ((z >>> 8) % TWELVE < sticksOf(k)) {
                    stops |= 1 << k;
                }
            }
            int more = goodIfStopped(order.size(), stops, SECONDS_WHEN_DRAWN, yc);
            good += more;
            whole += more == order.size() ? 1 : 0;
        }
        return nw % 10 == 0 ? good : whole;
    }

    // ---- in deed

    public int begin(int spot) {
        return isYard(spot) ? deed.start(spot) : VOID;
    }

    public int go(int jumper, int n) {
        if (n < 0 || n > MOST_SECONDS || !numbers.isJumper(jumper) || !deed.mayGo(jumper)) {
            return VOID;
        }
        return deed.sendOut(jumper, n, ahead(n, way()), yardsCarried(jumper));
    }

    public int over() {
        return deed.end();
    }

    public int led(int what) {
        return deed.tally(what);
    }

    public int image() {
        picture.become(deed);
        pictured = true;
        return picture.drops();
    }

    public int back() {
        if (!pictured) {
            return STATE;
        }
        deed.become(picture);
        return deed.drops();
    }

    public int undo() {
        return changes.takeBack();
    }

    public int redo() {
        return changes.makeAgain();
    }

    // ---- acts, shelves

    public int body(int kind) {
        return acts.newBody(kind);
    }

    public int act(int body, int act, int x) {
        return acts.play(body, act, x);
    }

    public int trace(int i) {
        return acts.tracedAt(i);
    }

    public int keep(int shelf, int body) {
        if (!shelves.isThere(shelf) || (body != -1 && !acts.isBody(body))) {
            return BAD;
        }
        shelves.lay(shelf, body == -1 ? NOTHING : A_BODY, body);
        return 1;
    }

    public int row(int shelf, int sort, int n) {
        if (!shelves.isThere(shelf) || sort < BYTES || sort > BOOLEANS || n > Shelves.ELEMENTS) {
            return BAD;
        }
        if (n < 0) {
            return SIZE_BELOW_ZERO;
        }
        shelves.lay(shelf, sort, n);
        return 1;
    }

    public int put(int shelf, int i, long v) {
        int refused = shelves.refusalOfPlace(shelf, i);
        if (refused != 0) {
            return refused;
        }
        shelves.set(shelf, i, v);
        return 1;
    }

    public long element(int shelf, int i) {
        return shelves.refusalOfPlace(shelf, i) == 0 ? shelves.cell(shelf, i) : NO_LONG;
    }

    public int shift(int shelf, int i, int other, int j, int n) {
        if (!shelves.isThere(shelf) || !shelves.isThere(other)) {
            return BAD;
        }
        int held = shelves.holds(shelf);
        if (held == NOTHING || shelves.holds(other) == NOTHING) {
            return MISSING;
        }
        if (held == A_BODY || held != shelves.holds(other)) {
            return UNLIKE;
        }
        return shelves.copy(shelf, i, other, j, n);
    }

    public int taken(int shelf, int k) {
        if (!shelves.isThere(shelf) || !acts.isKind(k)) {
            return BAD;
        }
        int refused = shelves.refusal(shelf, A_BODY);
        if (refused != 0) {
            return refused;
        }
        int kind = acts.kindOf(shelves.size(shelf));
        return acts.isUnder(kind, k) ? kind : UNLIKE;
    }

    public int count(int what) {
        switch (what) {
            case 0:
                return numbers.jumpersThere();
            case 1:
                return tape.size();
            case 2:
                return changes.undoable();
            case 3:
                return acts.bodiesKept();
            case 4:
                return acts.bodiesRun();
            default:
                return BAD;
        }
    }

    /** All that mend() can change: the numbers of THE FIELD, the aeroplane, the winds, each jumper. */
    private static final class Numbers {
        private static final int EACH = 4;
        private static final int[] LEAST = {1, 0, 0, 0, -999, -999, -999, 1, -30, -30, 1, 0};
        private static final int[] MOST = {9, 9, 1, 12, 999, 999, 999, 99, 30, 30, 9, 1};
        private final int[] told = {-99, 300, VOID, 36, 0, 0, 9, 0};
        private final int[] toldOfJumpers = new int[MOST_JUMPERS * EACH];
        private int jumpers;

        int jumpersThere() {
            return jumpers;
        }

        boolean isJumper(int number) {
            return number >= 0 && number < jumpers;
        }

        boolean isThere(int number, int what) {
            if (what < WEIGHT || what > RUN_IN) {
                return false;
            }
            return what < FROM ? isJumper(number) : number == 0;
        }

        boolean fits(int what, int v) {
            if (what < 0 || what >= LEAST.length || what >= MOST.length) {
                return false;
            }
            if (what == WIRE && v == VOID) {
                return true;
            }
            if (v < LEAST[what] || v > MOST[what]) {
                return false;
            }
            return (what != FROM || v <= told(0, TO)) && (what != TO || v >= told(0, FROM));
        }

        int told(int number, int what) {
            int i = what - FROM;
            if (i >= 0 && i < told.length) {
                return told[i];
            }
            int j = number * EACH + what;
            return j >= 0 && j < toldOfJumpers.length ? toldOfJumpers[j] : 0;
        }

        void tell(int number, int what, int v) {
            int i = what - FROM;
            if (i >= 0 && i < told.length) {
                told[i] = v;
                return;
            }
            int j = number * EACH + what;
            if (j >= 0 && j < toldOfJumpers.length) {
                toldOfJumpers[j] = v;
            }
        }

        int welcome(int weight, int skill, int square) {
            if (jumpers >= MOST_JUMPERS) {
                return FULL;
            }
            int number = jumpers;
            jumpers++;
            tell(number, WEIGHT, weight);
            tell(number, SKILL, skill);
            tell(number, SQUARE, square);
            return number;
        }

        int fromMiddle(int yard) {
            return Math.abs(yard - (told(0, FROM) + told(0, TO)) / 2);
        }
    }

    /** What was mended, so that it can be UNDONE and DONE AGAIN. */
    private static final class Changes {
        private static final int KEPT = 40;

        private final Numbers numbers;
        private final int[] who = new int[KEPT];
        private final int[] what = new int[KEPT];
        private final int[] was = new int[KEPT];
        private final int[] became = new int[KEPT];
        private int done;
        private int known;

        Changes(Numbers numbers) {
            this.numbers = numbers;
        }

        int undoable() {
            return done;
        }

        void note(int number, int sort, int v) {
            if (done >= KEPT) {
                forgetFirst();
            }
            if (done >= 0 && done < KEPT) {
                who[done] = number;
                what[done] = sort;
                was[done] = numbers.told(number, sort);
                became[done] = v;
                done++;
            }
            known = done;
        }

        private void forgetFirst() {
            done = KEPT - 1;
            System.arraycopy(who, 1, who, 0, done);
            System.arraycopy(what, 1, what, 0, done);
            System.arraycopy(was, 1, was, 0, done);
            System.arraycopy(became, 1, became, 0, done);
        }

        int takeBack() {
            if (done < 1 || done > KEPT) {
                return STATE;
            }
            done--;
            numbers.tell(who[done], what[done], was[done]);
            return done;
        }

        int makeAgain() {
            if (done < 0 || done >= known || done >= KEPT) {
                return STATE;
            }
            numbers.tell(who[done], what[done], became[done]);
            done++;
            return known - done;
        }
    }

    /** A text of THE LAW, or one that is still to become it; it is read anew each time it is asked for its worth. */
    private static final class Text {
        private static final int MOST = 120;
        private static final int MOST_DIGITS = 4;
        private static final int MOST_OPEN = 6;
        private static final int END = -1;
        private static final int COMPARING = 2, SINGLE = 5;
        private static final String NAMES = "wsqabh";

        private final int[] bytes = new int[MOST];
        private final int[] named = new int[6];
        private int size;
        private int place;
        private boolean stuck;

        int size() {
            return size;
        }

        void clear() {
            size = 0;
        }

        int append(int letter) {
            if (size < 0 || size >= MOST) {
                return FULL;
            }
            bytes[size] = letter;
            size++;
            return size;
        }

        void become(Text other) {
            if (other == null) {
                return;
            }
            System.arraycopy(other.bytes, 0, bytes, 0, MOST);
            size = other.size;
        }

        /** FAULT; NOT: there is none. Which bytes fit does not hang on what the names stand for. */
        int fault() {
            read();
            return stuck ? place : NOT;
        }

        int worth(int w, int s, int q, int a, int b, int h) {
            named[0] = w;
            named[1] = s;
            named[2] = q;
            named[3] = a;
            named[4] = b;
            named[5] = h;
            return read();
        }

        private int read() {
            place = 0;
            stuck = false;
            boolean settled = false;
            int worth = 0;
            for (int line = 0; line <= MOST; line++) {
                int value = joined(0, 0);
                boolean counts = true;
                if (next() == '?') {
                    place++;
                    counts = value != 0;
                    value = joined(0, 0);
                }
                if (counts && !settled) {
                    settled = true;
                    worth = value;
                }
                if (next() != ';') {
                    break;
                }
                place++;
            }
            stuck = stuck || place < size;
            return worth;
        }

        /** Once stuck, all that is still open sees the end, so that the place stays where it is. */
        private int next() {
            return stuck || place < 0 || place >= size || place >= MOST ? END : bytes[place];
        }

        /** Ranks 0 to 4 are E, A, B, S, P, rank 5 is O; open tells how many of ( ! - stand open around it. */
        private int joined(int rank, int open) {
            if (rank >= SINGLE) {
                return single(open);
            }
            int left = joined(rank + 1, open);
            for (int i = 0; i < MOST && rankOf(next()) == rank; i++) {
                int sign = next();
                place++;
                left = reckoned(sign, left, joined(rank + 1, open));
                if (rank == COMPARING) {
                    break;
                }
            }
            return left;
        }

        private static int rankOf(int sign) {
            switch (sign) {
                case '|':
                    return 0;
                case '&':
                    return 1;
                case '<':
                case '=':
                case '>':
                    return COMPARING;
                case '+':
                case '-':
                    return 3;
                case '*':
                case '/':
                case '%':
                    return 4;
                default:
                    return END;
            }
        }

        private static int reckoned(int sign, int left, int right) {
            switch (sign) {
                case '|':
                    return left != 0 || right != 0 ? 1 : 0;
                case '&':
                    return left != 0 && right != 0 ? 1 : 0;
                case '<':
                    return left < right ? 1 : 0;
                case '=':
                    return left == right ? 1 : 0;
                case '>':
                    return left > right ? 1 : 0;
                case '+':
                    return left + right;
                case '-':
                    return left - right;
                case '*':
                    return left * right;
                case '/':
                    return right == 0 ? 0 : left / right;
                default:
                    return right == 0 ? 0 : left % right;
            }
        }

        private int single(int open) {
            int letter = next();
            if (letter >= '0' && letter <= '9') {
                return number();
            }
            int name = letter == END ? -1 : NAMES.indexOf((char) letter);
            if (name >= 0 && name < named.length) {
                place++;
                return named[name];
            }
            boolean opens = letter == '(' || letter == '!' || letter == '-';
            if (!opens || open >= MOST_OPEN) {
                stuck = true;
                return 0;
            }
            place++;
            if (letter == '(') {
                return bracketed(open + 1);
            }
            int value = single(open + 1);
            if (letter == '-') {
                return -value;
            }
            return value == 0 ? 1 : 0;
        }

        private int bracketed(int open) {
            int value = joined(0, open);
            if (next() == ')') {
                place++;
            } else {
                stuck = true;
            }
            return value;
        }

        private int number() {
            int value = 0;
            int end = Math.min(Math.min(size, MOST), place + MOST_DIGITS);
            for (int i = Math.max(0, place); i < end && bytes[i] >= '0' && bytes[i] <= '9'; i++) {
                value = value * 10 + bytes[i] - '0';
                place = i + 1;
            }
            return value;
        }
    }

    /** Six SHELVES, their ROWS end to end in one array. */
    private static final class Shelves {
        private static final int SHELVES = 6;
        private static final int ELEMENTS = 60;

        private final int[] held = {NOTHING, NOTHING, NOTHING, NOTHING, NOTHING, NOTHING};
        // A ROW's length; for a BODY its number.
        private final int[] sizes = new int[SHELVES];
        private final long[] cells = new long[SHELVES * ELEMENTS];

        boolean isThere(int shelf) {
            return shelf >= 0 && shelf < SHELVES && shelf < held.length;
        }

        int holds(int shelf) {
            return isThere(shelf) ? held[shelf] : NOTHING;
        }

        int size(int shelf) {
            return isThere(shelf) ? sizes[shelf] : 0;
        }

        /** 0 if the SHELF holds just this. */
        int refusal(int shelf, int wanted) {
            if (!isThere(shelf)) {
                return BAD;
            }
            if (held[shelf] == NOTHING) {
                return MISSING;
            }
            return held[shelf] == wanted ? 0 : UNLIKE;
        }

        int refusalOfPlace(int shelf, int i) {
            if (!isThere(shelf)) {
                return BAD;
            }
            if (held[shelf] == NOTHING) {
                return MISSING;
            }
            if (held[shelf] == A_BODY) {
                return UNLIKE;
            }
            return i >= 0 && i < sizes[shelf] ? 0 : NO_PLACE;
        }

        void lay(int shelf, int what, int size) {
            if (!isThere(shelf)) {
                return;
            }
            held[shelf] = what;
            sizes[shelf] = what == NOTHING ? 0 : size;
            Arrays.fill(cells, shelf * ELEMENTS, (shelf + 1) * ELEMENTS, 0L);
        }

        long cell(int shelf, int i) {
            return refusalOfPlace(shelf, i) == 0 && i < ELEMENTS ? cells[shelf * ELEMENTS + i] : 0L;
        }

        void set(int shelf, int i, long v) {
            if (refusalOfPlace(shelf, i) == 0 && i < ELEMENTS) {
                cells[shelf * ELEMENTS + i] = lowestBits(held[shelf], v);
            }
        }

        private static long lowestBits(int sort, long v) {
            switch (sort) {
                case BYTES:
                    return (byte) v;
                case SHORTS:
                    return (short) v;
                case INTS:
                    return (int) v;
                case BOOLEANS:
                    return v != 0 ? 1 : 0;
                default:
                    return v;
            }
        }

        int copy(int shelf, int i, int other, int j, int n) {
            if (!isThere(shelf) || !isThere(other)) {
                return BAD;
            }
            if (!isStretch(i, n, sizes[shelf]) || !isStretch(j, n, sizes[other])) {
                return NO_PLACE;
            }
            System.arraycopy(cells, shelf * ELEMENTS + i, cells, other * ELEMENTS + j, n);
            return n;
        }

        private static boolean isStretch(int from, int n, int size) {
            return from >= 0 && n >= 0 && size <= ELEMENTS && from <= size && n <= size - from;
        }
    }

    /** Jumpers in the order in which they go, each once. */
    private static final class Order {
        private final int[] who = new int[MOST_JUMPERS];
        private int size;

        int size() {
            return size;
        }

        void clear() {
            size = 0;
        }

        int at(int k) {
            return k >= 0 && k < size && k < who.length ? who[k] : 0;
        }

        boolean has(int jumper) {
            for (int k = 0; k < size; k++) {
                if (at(k) == jumper) {
                    return true;
                }
            }
            return false;
        }

        void append(int jumper) {
            if (size >= 0 && size < who.length) {
                who[size] = jumper;
                size++;
            }
        }

        /** The order whose places are the digits of code to the base of the jumpers there are: counting
         *  up goes through all orders, first by numbers first. False: one would go twice. */
        boolean spell(int code, int length, int there) {
            clear();
            int worth = power(there, length - 1);
            for (int k = 0; k < length && worth > 0 && there > 0; k++) {
                int jumper = code / worth % there;
                if (has(jumper)) {
                    return false;
                }
                append(jumper);
                worth /= there;
            }
            return true;
        }

        static int power(int base, int times) {
            int all = 1;
            for (int i = 0; i < times; i++) {
                all *= base;
            }
            return all;
        }

        int asDigits() {
            int digits = 0;
            for (int k = 0; k < size; k++) {
                digits = digits * 10 + at(k);
            }
            return digits;
        }
    }

    /** Those who went out: when, and how many yards from the SPOT they come DOWN. Who MEETS whom is
     *  the same from every SPOT, so it is settled as they go. */
    private static final class Jumps {
        private static final int NEAR_YARDS = 10;
        private static final int NEAR_SECONDS = 4;
        private static final int WIRE_REACH = 5;

        private final Numbers numbers;
        private final int[] seconds = new int[MOST_JUMPERS];
        private final int[] yards = new int[MOST_JUMPERS];
        private final boolean[] meets = new boolean[MOST_JUMPERS];
        private int size;

        Jumps(Numbers numbers) {
            this.numbers = numbers;
        }

        int size() {
            return size;
        }

        void clear() {
            size = 0;
        }

        void become(Jumps other) {
            if (other == null) {
                return;
            }
            System.arraycopy(other.seconds, 0, seconds, 0, MOST_JUMPERS);
            System.arraycopy(other.yards, 0, yards, 0, MOST_JUMPERS);
            System.arraycopy(other.meets, 0, meets, 0, MOST_JUMPERS);
            size = other.size;
        }

        void join(int second, int yard) {
            if (size < 0 || size >= MOST_JUMPERS) {
                return;
            }
            seconds[size] = second;
            yards[size] = yard;
            meets[size] = false;
            for (int i = 0; i < size; i++) {
                boolean near = Math.abs(yards[i] - yard) <= NEAR_YARDS;
                if (near && Math.abs(seconds[i] - second) <= NEAR_SECONDS) {
                    meets[i] = true;
                    meets[size] = true;
                }
            }
            size++;
        }

        int downOf(int k, int spot) {
            return k >= 0 && k < size && k < MOST_JUMPERS ? spot + yards[k] : VOID;
        }

        int meeting() {
            int many = 0;
            for (int k = 0; k < size && k < MOST_JUMPERS; k++) {
                many += meets[k] ? 1 : 0;
            }
            return many;
        }

        int well(int spot) {
            return wellFrom(spot, true);
        }

        int good(int spot) {
            return wellFrom(spot, false);
        }

        private int wellFrom(int spot, boolean meetingToo) {
            int from = numbers.told(0, FROM);
            int to = numbers.told(0, TO);
            int wire = numbers.told(0, WIRE);
            int many = 0;
            for (int k = 0; k < size && k < MOST_JUMPERS; k++) {
                int down = spot + yards[k];
                boolean clear = wire == VOID || Math.abs(down - wire) > WIRE_REACH;
                if (clear && down >= from && down <= to && (meetingToo || !meets[k])) {
                    many++;
                }
            }
            return many;
        }
    }

    /** The drop that is on, and what LED tells: all that AN IMAGE keeps. */
    private static final class Deed {
        private final Numbers numbers;
        private final Jumps jumps;
        private final boolean[] gone = new boolean[MOST_JUMPERS];
        private boolean on;
        private int now;
        private int seconds;
        private int drops;
        private int jumped;
        private int good;
        private int farthest;
        private int who = NOT;

        Deed(Numbers numbers) {
            this.numbers = numbers;
            jumps = new Jumps(numbers);
        }

        void become(Deed other) {
            if (other == null) {
                return;
            }
            jumps.become(other.jumps);
            System.arraycopy(other.gone, 0, gone, 0, MOST_JUMPERS);
            on = other.on;
            now = other.now;
            seconds = other.seconds;
            drops = other.drops;
            jumped = other.jumped;
            good = other.good;
            farthest = other.farthest;
            who = other.who;
        }

        int drops() {
            return drops;
        }

        int start(int spot) {
            if (on) {
                return VOID;
            }
            on = true;
            now = spot;
            seconds = 0;
            jumps.clear();
            for (int jumper = 0; jumper < gone.length; jumper++) {
                gone[jumper] = false;
            }
            return spot;
        }

        boolean mayGo(int jumper) {
            return on && jumper >= 0 && jumper < gone.length && !gone[jumper];
        }

        int sendOut(int jumper, int n, int ahead, int carried) {
            if (!mayGo(jumper)) {
                return VOID;
            }
            now += ahead;
            seconds += n;
            gone[jumper] = true;
            jumped++;
            int down = now + carried;
            jumps.join(seconds, down);
            int far = numbers.fromMiddle(down);
            if (who == NOT || far > farthest) {
                farthest = far;
                who = jumper;
            }
            return down;
        }

        int end() {
            if (!on) {
                return STATE;
            }
            on = false;
            drops++;
            int well = jumps.good(0);
            good += well;
            return well;
        }

        int tally(int what) {
            switch (what) {
                case 0:
                    return drops;
                case 1:
                    return jumped;
                case 2:
                    return good;
                case 3:
                    return farthest;
                case 4:
                    return who;
                case 5:
                    return on ? now : VOID;
                default:
                    return VOID;
            }
        }
    }

    /** DROPS' ways by KINDS. A KIND without a body for an ACT has that of the next KIND above. */
    private static final class Acts {
        private static final int BODIES = 50;
        private static final int TRACED = 24;
        private static final int KINDS = 8;
        private static final int ACTS = 4;
        private static final int DEEPEST = 40;
        private static final int GOES = 0, FALLS = 1, STEERS = 2, TELLS = 3;
        private static final int TOP = -1;
        private static final int[] NEXT_ABOVE = {TOP, 0, 0, 2, 1, 3, 0, 4};
        // By KIND, then by ACT; 0: none of its own.
        private static final int[] OWN_BODIES = {
            1, 10, 11, 2,
            20, 0, 0, 0,
            0, 30, 0, 0,
            0, 41, 40, 0,
            0, 0, 50, 0,
            0, 0, 0, 60,
            70, 0, 0, 0,
            0, 80, 0, 81,
        };

        private final int[] kinds = new int[BODIES];
        private int bodies;
        private final int[] traced = new int[TRACED];
        private int ran;
        // Whose act runs.
        private int number;
        private int kind;

        int bodiesKept() {
            return bodies;
        }

        int bodiesRun() {
            return ran;
        }

        boolean isKind(int k) {
            return k >= 0 && k < KINDS;
        }

        boolean isBody(int b) {
            return b >= 0 && b < bodies;
        }

        int newBody(int k) {
            if (!isKind(k)) {
                return BAD;
            }
            if (bodies < 0 || bodies >= BODIES) {
                return FULL;
            }
            kinds[bodies] = k;
            bodies++;
            return bodies - 1;
        }

        int kindOf(int b) {
            return isBody(b) && b < BODIES ? kinds[b] : 0;
        }

        boolean isUnder(int k, int top) {
            int at = k;
            for (int step = 0; step < KINDS && isKind(at); step++) {
                if (at == top) {
                    return true;
                }
                at = NEXT_ABOVE[at];
            }
            return false;
        }

        int tracedAt(int i) {
            return i >= 0 && i < ran && i < TRACED ? traced[i] : BAD;
        }

        int play(int b, int what, int x) {
            ran = 0;
            if (!isBody(b) || what < GOES || what > TELLS) {
                return 0;
            }
            number = b;
            kind = kindOf(b);
            return from(kind, what, x, 0);
        }

        private void note(int ownBody) {
            if (ran >= 0 && ran < TRACED) {
                traced[ran] = ownBody;
            }
            ran++;
        }

        private static int ownBody(int k, int what) {
            int i = k * ACTS + what;
            return i >= 0 && i < OWN_BODIES.length ? OWN_BODIES[i] : 0;
        }

        private int own(int what, int x, int depth) {
            return from(kind, what, x, depth);
        }

        /** Runs the body of this KIND, or of the next KIND above that has one. */
        private int from(int first, int what, int x, int depth) {
            int k = first;
            for (int step = 0; step < KINDS && isKind(k) && ownBody(k, what) == 0; step++) {
                k = NEXT_ABOVE[k];
            }
            if (!isKind(k) || depth > DEEPEST) {
                return 0;
            }
            int ownBody = ownBody(k, what);
            note(ownBody);
            return ofDrop(ownBody) ? plain(ownBody, x, depth + 1) : more(ownBody, NEXT_ABOVE[k], x, depth + 1);
        }

        private static boolean ofDrop(int ownBody) {
            return ownBody < 20;
        }

        private int plain(int ownBody, int x, int depth) {
            switch (ownBody) {
                case 1:
                    return x + number;
                case 2:
                    return own(FALLS, x, depth) - own(STEERS, 1, depth);
                case 10:
                    return own(GOES, x, depth) * 2;
                default:
                    return x ^ number;
            }
        }

        private int more(int ownBody, int above, int x, int depth) {
            switch (ownBody) {
                case 20:
                    return from(above, GOES, x, depth) + 3;
                case 30:
                    return -from(above, FALLS, x, depth);
                case 40:
                    return from(above, STEERS, x, depth) * 3;
                case 41:
                    return from(above, FALLS, x + 1, depth);
                case 50:
                    return from(above, STEERS, x, depth) - own(GOES, 2, depth);
                case 60:
                    return from(above, TELLS, x, depth) ^ 5;
                case 70:
                    return from(above, GOES, x, depth) * 2;
                case 80:
                    return from(above, FALLS, x, depth) + own(STEERS, 2, depth);
                default:
                    return from(above, TELLS, x, depth) - 1;
            }
        }
    }
}
