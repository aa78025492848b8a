import java.math.BigInteger;
import java.util.ArrayDeque;
import java.util.ArrayList;
import java.util.Deque;
import java.util.List;

/** The document once more, in the plainest way and with the whole Java library, to be measured against. */
final class Model {
    /** WEIGHT, SKILL, SQUARE, STICKS of each jumper. */
    final List<int[]> jumpers = new ArrayList<>();
    /** FROM, TO, WIRE, SPEED, ABOVE, BELOW, HEIGHT, RUN IN. */
    int[] field = {-99, 300, OutByTurns.VOID, 36, 0, 0, 9, 0};
    String law;

    record Out(int second, int down) {
    }

    // ---- the law

    static int fault(String text) {
        Deque<Character> open = new ArrayDeque<>();
        Deque<Boolean> compared = new ArrayDeque<>();
        compared.push(false);
        boolean wanted = true;
        boolean asked = false;
        int digits = 0;
        for (int i = 0; i < text.length(); i++) {
            char c = text.charAt(i);
            boolean inside = open.contains('(');
            if (wanted) {
                if ("(!-".indexOf(c) >= 0) {
                    if (open.size() == 6) {
                        return i;
                    }
                    open.push(c);
                    if (c == '(') {
                        compared.push(false);
                    }
                } else if (c >= '0' && c <= '9' || "wsqabh".indexOf(c) >= 0) {
                    digits = c <= '9' ? 1 : 0;
                    wanted = false;
                    closePrefixes(open);
                } else {
                    return i;
                }
            } else if (c >= '0' && c <= '9') {
                if (digits == 0 || digits == 4) {
                    return i;
                }
                digits++;
            } else if (c == ')') {
                if (!inside) {
                    return i;
                }
                open.pop();
                compared.pop();
                digits = 0;
                closePrefixes(open);
            } else if (c == '|' || c == '&') {
                compared.pop();
                compared.push(false);
                wanted = true;
            } else if ("<=>".indexOf(c) >= 0) {
                if (compared.pop()) {
                    return i;
                }
                compared.push(true);
                wanted = true;
            } else if ("+-*/%".indexOf(c) >= 0) {
                wanted = true;
            } else if (c == '?' || c == ';') {
                if (inside || c == '?' && asked) {
                    return i;
                }
                asked = c == '?';
                compared.pop();
                compared.push(false);
                wanted = true;
            } else {
                return i;
            }
        }
        return wanted || open.contains('(') ? text.length() : -1;
    }

    private static void closePrefixes(Deque<Character> open) {
        while (!open.isEmpty() && open.peek() != '(') {
            open.pop();
        }
    }

    int worth(String text, int who) {
        for (String line : text.split(";")) {
            String[] sides = line.split("\\?");
            if (sides.length == 1) {
                return worthOf(sides[0], who);
            }
            if (worthOf(sides[0], who) != 0) {
                return worthOf(sides[1], who);
            }
        }
        return 0;
    }

    private int worthOf(String text, int who) {
        Deque<Integer> values = new ArrayDeque<>();
        Deque<Character> signs = new ArrayDeque<>();
        boolean wanted = true;
        for (int i = 0; i < text.length(); i++) {
            char c = text.charAt(i);
            if (wanted && c >= '0' && c <= '9') {
                int end = i;
                while (end < text.length() && Character.isDigit(text.charAt(end))) {
                    end++;
                }
                values.push(Integer.parseInt(text.substring(i, end)));
                i = end - 1;
                wanted = false;
            } else if (wanted && Character.isLetter(c)) {
                values.push(named(c, who));
                wanted = false;
            } else if (wanted) {
                // N and M stand for ! and - ahead of an O.
                signs.push(c == '!' ? 'N' : c == '-' ? 'M' : c);
            } else if (c == ')') {
                while (signs.peek() != '(') {
                    reckon(values, signs.pop());
                }
                signs.pop();
            } else {
                while (!signs.isEmpty() && rank(signs.peek()) >= rank(c)) {
                    reckon(values, signs.pop());
                }
                signs.push(c);
                wanted = true;
            }
        }
        while (!signs.isEmpty()) {
            reckon(values, signs.pop());
        }
        return values.pop();
    }

    private static int rank(char sign) {
        return sign == '(' ? -1 : "|&<+*N".indexOf("=>".indexOf(sign) >= 0 ? '<' : sign == '-' ? '+'
            : "/%".indexOf(sign) >= 0 ? '*' : sign == 'M' ? 'N' : sign);
    }

    private static void reckon(Deque<Integer> values, char sign) {
        long b = values.pop();
        if (sign == 'N' || sign == 'M') {
            values.push(sign == 'M' ? (int) -b : b == 0 ? 1 : 0);
            return;
        }
        long a = values.pop();
        long v = switch (sign) {
            case '|' -> a != 0 || b != 0 ? 1 : 0;
            case '&' -> a != 0 && b != 0 ? 1 : 0;
            case '<' -> a < b ? 1 : 0;
            case '=' -> a == b ? 1 : 0;
            case '>' -> a > b ? 1 : 0;
            case '+' -> a + b;
            case '-' -> a - b;
            case '*' -> a * b;
            case '/' -> b == 0 ? 0 : a / b;
            default -> b == 0 ? 0 : a % b;
        };
        values.push((int) v);
    }

    private int named(char name, int who) {
        int[] j = jumpers.get(who);
        return switch (name) {
            case 'w' -> j[0];
            case 's' -> j[1];
            case 'q' -> j[2];
            case 'a' -> field[4];
            case 'b' -> field[5];
            default -> field[6];
        };
    }

    int carried(int who) {
        int yards;
        if (law != null) {
            yards = worth(law, who);
        } else {
            int[] j = jumpers.get(who);
            yards = field[6] * (field[4] + field[5]) - field[6] * j[0];
            if (j[2] == 1 && field[5] != 0) {
                yards += field[5] > 0 ? -5 * j[1] : 5 * j[1];
            }
        }
        return yards > 500 ? 500 : yards < -500 ? -500 : yards;
    }

    // ---- drops in thought

    List<Integer> order(long[] row) {
        List<Integer> order = new ArrayList<>();
        for (long v : row) {
            int who = (byte) v;
            if (who < 0 || who >= jumpers.size() || order.contains(who)) {
                break;
            }
            order.add(who);
        }
        return order;
    }

    Out out(int who, int second, int spot, int run) {
        int step = run == 0 ? field[3] : -field[3];
        return new Out(second, spot + second * step + carried(who));
    }

    List<Out> drop(List<Integer> order, int spot, int count, int run) {
        List<Out> outs = new ArrayList<>();
        for (int k = 0; k < order.size(); k++) {
            outs.add(out(order.get(k), k * count, spot, run));
        }
        return outs;
    }

    boolean isWell(Out out) {
        if (field[2] != OutByTurns.VOID && out.down() >= field[2] - 5 && out.down() <= field[2] + 5) {
            return false;
        }
        return field[0] <= out.down() && out.down() <= field[1];
    }

    static boolean meets(List<Out> outs, int k) {
        for (int i = 0; i < outs.size(); i++) {
            if (i != k && Math.abs(outs.get(i).down() - outs.get(k).down()) <= 10
                && Math.abs(outs.get(i).second() - outs.get(k).second()) <= 4) {
                return true;
            }
        }
        return false;
    }

    int[] tally(List<Out> outs) {
        int[] tally = new int[3];
        for (int k = 0; k < outs.size(); k++) {
            boolean well = isWell(outs.get(k));
            boolean meets = meets(outs, k);
            tally[0] += well ? 1 : 0;
            tally[1] += meets ? 1 : 0;
            tally[2] += well && !meets ? 1 : 0;
        }
        return tally;
    }

    int good(List<Out> outs) {
        return tally(outs)[2];
    }

    /** How many, the yard. */
    int[] spotFor(List<Integer> order, int count, int run) {
        int[] best = {-1, 0};
        for (int spot = -999; spot <= 999; spot++) {
            int good = good(drop(order, spot, count, run));
            boolean nearer = Math.abs(spot) < Math.abs(best[1]);
            if (good > best[0] || good == best[0] && nearer) {
                best = new int[] {good, spot};
            }
        }
        return best;
    }

    /** The count, how many. */
    int[] countFor(List<Integer> order, int spot) {
        int[] best = {0, -1};
        for (int count = 1; count <= 20; count++) {
            int good = good(drop(order, spot, count, field[7]));
            if (good > best[1]) {
                best = new int[] {count, good};
            }
        }
        return best;
    }

    static List<List<Integer>> orders(int there, int many) {
        List<List<Integer>> all = new ArrayList<>();
        if (many == 0) {
            all.add(new ArrayList<>());
            return all;
        }
        for (List<Integer> head : orders(there, many - 1)) {
            for (int who = 0; who < there; who++) {
                if (!head.contains(who)) {
                    List<Integer> longer = new ArrayList<>(head);
                    longer.add(who);
                    all.add(longer);
                }
            }
        }
        return all;
    }

    List<Integer> orderFor(int spot, int count) {
        List<Integer> best = null;
        int most = -1;
        for (List<Integer> order : orders(jumpers.size(), jumpers.size())) {
            int good = good(drop(order, spot, count, field[7]));
            if (good > most) {
                most = good;
                best = order;
            }
        }
        return best;
    }

    int inOnePass(List<Integer> order, int count) {
        for (int many = order.size(); many > 0; many--) {
            if (spotFor(order.subList(0, many), count, field[7])[0] == many) {
                return many;
            }
        }
        return 0;
    }

    int passes(List<Integer> order, int count) {
        if (order.isEmpty()) {
            return 0;
        }
        int one = inOnePass(order, count);
        if (one == 0) {
            return OutByTurns.NOT;
        }
        int more = passes(order.subList(one, order.size()), count);
        return more == OutByTurns.NOT ? more : more + 1;
    }

    int runIn(List<Integer> order, int count) {
        return spotFor(order, count, 1)[0] > spotFor(order, count, 0)[0] ? 1 : 0;
    }

    int room(List<Integer> order) {
        for (int count = 1; count <= 20; count++) {
            if (tally(drop(order, 0, count, field[7]))[1] == 0) {
                return count;
            }
        }
        return OutByTurns.NOT;
    }

    int last(List<Integer> order, int spot, int count) {
        int best = OutByTurns.NOT;
        int least = Integer.MAX_VALUE;
        int middle = (field[0] + field[1]) / 2;
        for (int who = 0; who < jumpers.size(); who++) {
            if (order.contains(who)) {
                int far = Math.abs(out(who, (order.size() - 1) * count, spot, field[7]).down() - middle);
                if (far < least) {
                    least = far;
                    best = who;
                }
            }
        }
        return best;
    }

    // ---- who sticks, paper, drops seen

    List<Out> dropStopped(List<Integer> order, boolean[] stops, int n, int spot, int count) {
        List<Out> outs = new ArrayList<>();
        int late = 0;
        for (int k = 0; k < order.size(); k++) {
            late += stops[k] ? n : 0;
            outs.add(out(order.get(k), k * count + late, spot, field[7]));
        }
        return outs;
    }

    int sticks(List<Integer> order, int spot, int count, int k, int n) {
        boolean[] stops = new boolean[order.size()];
        stops[k] = true;
        return good(dropStopped(order, stops, n, spot, count));
    }

    int pushed(List<Integer> order, int spot, int count, int k) {
        List<Out> outs = drop(order, spot, count, field[7]);
        outs.remove(k);
        return good(outs);
    }

    static long[] fraction(BigInteger above, BigInteger below) {
        BigInteger shared = above.gcd(below);
        return new long[] {above.divide(shared).longValueExact(), below.divide(shared).longValueExact()};
    }

    long[] sure(List<Integer> order) {
        BigInteger above = BigInteger.ONE;
        for (int who : order) {
            above = above.multiply(BigInteger.valueOf(12 - jumpers.get(who)[3]));
        }
        return fraction(above, BigInteger.valueOf(12).pow(order.size()));
    }

    long[] mean(List<Integer> whole, int spot, int count, int n) {
        List<Integer> order = whole.subList(0, Math.min(5, whole.size()));
        BigInteger above = meanFrom(order, new boolean[order.size()], 0, spot, count, n);
        return fraction(above, BigInteger.valueOf(12).pow(order.size()));
    }

    private BigInteger meanFrom(List<Integer> order, boolean[] stops, int k, int spot, int count, int n) {
        if (k == order.size()) {
            return BigInteger.valueOf(good(dropStopped(order, stops, n, spot, count)));
        }
        int sticks = jumpers.get(order.get(k))[3];
        stops[k] = true;
        BigInteger stopped = meanFrom(order, stops, k + 1, spot, count, n);
        stops[k] = false;
        BigInteger went = meanFrom(order, stops, k + 1, spot, count, n);
        return stopped.multiply(BigInteger.valueOf(sticks)).add(went.multiply(BigInteger.valueOf(12 - sticks)));
    }

    int windBy(int y, int x) {
        for (int both = 0; both <= 60; both++) {
            for (int above = -30; above <= 30; above++) {
                for (int below = -30; below <= 30; below++) {
                    if (Math.abs(above) + Math.abs(below) == both && y + field[6] * (above + below) == x) {
                        return 100 * (above + 30) + below + 30;
                    }
                }
            }
        }
        return OutByTurns.NOT;
    }

    int judge(List<Integer> order, List<Integer> seen, int spot, int count) {
        List<Out> outs = drop(order, spot, count, field[7]);
        int same = 0;
        while (same < seen.size() && same < outs.size() && outs.get(same).down() == seen.get(same)) {
            same++;
        }
        return same == seen.size() ? OutByTurns.NOT : same;
    }

    int fromWhere(List<Integer> order, List<Integer> seen, int count) {
        for (int spot = -999; spot <= 999; spot++) {
            if (judge(order, seen, spot, count) == OutByTurns.NOT) {
                return spot;
            }
        }
        return OutByTurns.VOID;
    }

    /** How many, the first. */
    int[] which(List<Integer> seen, int spot, int count) {
        int[] which = {0, OutByTurns.NOT};
        List<Integer> counted = seen.subList(0, Math.min(4, seen.size()));
        for (List<Integer> order : orders(jumpers.size(), counted.size())) {
            if (judge(order, counted, spot, count) == OutByTurns.NOT) {
                which[0]++;
                if (which[0] == 1) {
                    StringBuilder digits = new StringBuilder("0");
                    order.forEach(digits::append);
                    which[1] = Integer.parseInt(digits.toString());
                }
            }
        }
        return which;
    }

    int[] drawn(List<Integer> order, int seed, int spot, int count, int n) {
        int[] drawn = new int[2];
        int z = seed;
        for (int i = 0; i < n; i++) {
            boolean[] stops = new boolean[order.size()];
            for (int k = 0; k < stops.length; k++) {
                z = z * 1103515245 + 12345;
                stops[k] = (z >>> 8) % 12 < jumpers.get(order.get(k))[3];
            }
            int good = good(dropStopped(order, stops, 5, spot, count));
            drawn[0] += good;
            drawn[1] += good == order.size() ? 1 : 0;
        }
        return drawn;
    }
}
