import java.util.ArrayList;
import java.util.Collections;
import java.util.List;
import java.util.Random;

/** Promises 6 to 26 against the model, by runs drawn from fixed seeds. */
public final class ModelTest {
    private static final Due DUE = new Due("ModelTest");
    private static final int RUNS = 400;
    private static final int TEXTS = 40000;
    private static final String LETTERS = "wsqabh0123456789+-*/%|&<=>!()?; x";

    public static void main(String[] args) {
        for (int seed = 0; seed < RUNS; seed++) {
            run(new Random(seed), "run " + seed + ": ");
        }
        texts(new Random(7));
        DUE.end();
    }

    private static int between(Random random, int least, int most) {
        return least + random.nextInt(most - least + 1);
    }

    private static void run(Random random, String run) {
        OutByTurns x = new OutByTurns();
        Model model = new Model();
        int many = between(random, 0, 7);
        for (int number = 0; number < many; number++) {
            int[] j = {between(random, 1, 9), between(random, 0, 9), 0, 0};
            x.jumper(j[0], j[1]);
            model.jumpers.add(j);
        }
        if (random.nextInt(3) == 0) {
            model.law = text(random, 3);
            while (model.law.length() > 120 || Model.fault(model.law) >= 0) {
                model.law = text(random, 3);
            }
            DUE.is(run + "law " + model.law, Due.law(x, model.law), 1);
        }
        for (int round = 0; round < 3; round++) {
            numbers(random, x, model, run);
            carried(x, model, run);
            drops(random, x, model, run);
            seen(random, x, model, run);
        }
    }

    private static void numbers(Random random, OutByTurns x, Model model, String run) {
        for (int i = 0; i < 8; i++) {
            int what = random.nextInt(12);
            int number = what > 3 || model.jumpers.isEmpty() ? 0 : random.nextInt(model.jumpers.size());
            int[] least = {0, -1, 0, 0, -400, -100, -200, 0, -31, -31, 0, 0};
            int[] most = {10, 10, 2, 13, 200, 500, 300, 100, 31, 31, 10, 2};
            int v = what == 6 && random.nextBoolean() ? OutByTurns.VOID : between(random, least[what], most[what]);
            if (what == 7 && random.nextBoolean()) {
                v = between(random, 1, 6);
            }
            if (x.mend(number, what, v) != -3000) {
                if (what < 4) {
                    model.jumpers.get(number)[what] = v;
                } else {
                    model.field[what - 4] = v;
                }
            }
        }
        for (int what = 4; what <= 11; what++) {
            DUE.is(run + "of(0, " + what + ")", x.of(0, what), model.field[what - 4]);
        }
    }

    private static void carried(OutByTurns x, Model model, String run) {
        for (int who = 0; who < model.jumpers.size(); who++) {
            DUE.is(run + "carried(" + who + ")", x.carried(who), model.carried(who));
        }
    }

    private static long[] row(Random random, int there) {
        List<Long> row = new ArrayList<>();
        for (long who = 0; who < there; who++) {
            row.add(who);
        }
        Collections.shuffle(row, random);
        if (random.nextInt(3) == 0) {
            row.add(random.nextInt(row.size() + 1), (long) between(random, -1, 7));
        }
        long[] elements = new long[random.nextInt(row.size() + 1)];
        for (int i = 0; i < elements.length; i++) {
            elements[i] = row.get(i);
        }
        return elements;
    }

    private static void drops(Random random, OutByTurns x, Model model, String run) {
        long[] row = row(random, model.jumpers.size());
        List<Integer> order = model.order(row);
        Due.order(x, 2, row);
        int spot = random.nextInt(4) == 0 ? between(random, -999, 999) : between(random, -200, 300);
        int count = random.nextInt(3) == 0 ? between(random, 1, 20) : between(random, 1, 5);
        int yc = Due.yc(spot, count);
        int run1 = model.field[7];
        List<Model.Out> outs = model.drop(order, spot, count, run1);
        int[] tally = model.tally(outs);
        for (int what = 0; what <= 2; what++) {
            DUE.is(run + "drop " + what, x.drop(2, yc, what), tally[what]);
        }
        for (int k = 0; k <= outs.size(); k++) {
            DUE.is(run + "down " + k, x.down(2, yc, k), k < outs.size() ? outs.get(k).down() : Due.NONE);
        }
        searches(x, model, run, order, spot, count);
        DUE.is(run + "last", x.last(2, yc), model.last(order, spot, count));
        stops(random, x, model, run, order, yc);
    }

    private static void searches(OutByTurns x, Model model, String run, List<Integer> order, int spot, int count) {
        int[] spotFor = model.spotFor(order, count, model.field[7]);
        int[] countFor = model.countFor(order, spot);
        for (int what = 0; what <= 1; what++) {
            DUE.is(run + "spotFor " + what, x.spotFor(2, count, what), spotFor[what]);
            DUE.is(run + "countFor " + what, x.countFor(2, spot, what), countFor[what]);
        }
        int yc = Due.yc(spot, count);
        if (model.jumpers.size() > 5) {
            DUE.is(run + "orderFor", x.orderFor(yc, -1), OutByTurns.STATE);
        } else {
            List<Integer> best = model.orderFor(spot, count);
            DUE.is(run + "orderFor -1", x.orderFor(yc, -1), model.good(model.drop(best, spot, count, model.field[7])));
            for (int k = 0; k < best.size(); k++) {
                DUE.is(run + "orderFor " + k, x.orderFor(yc, k), best.get(k));
            }
        }
        DUE.is(run + "pass", x.pass(2, count, 0), model.inOnePass(order, count));
        DUE.is(run + "passes", x.pass(2, count, 1), model.passes(order, count));
        DUE.is(run + "runIn", x.runIn(2, count), model.runIn(order, count));
        DUE.is(run + "room", x.room(2), model.room(order));
    }

    private static void stops(Random random, OutByTurns x, Model model, String run, List<Integer> order, int yc) {
        int spot = yc / 100 - 999;
        int count = yc % 100;
        int n = between(random, 1, 20);
        for (int k = 0; k < order.size(); k++) {
            int waiting = model.sticks(order, spot, count, k, n);
            int push = model.pushed(order, spot, count, k) > waiting ? 1 : 0;
            DUE.is(run + "sticks " + k, x.sticks(2, yc, 100 * k + n, 0), waiting);
            DUE.is(run + "wait or push " + k, x.sticks(2, yc, 100 * k + n, 1), push);
        }
        long[] sure = model.sure(order);
        long[] mean = model.mean(order, spot, count, n);
        int seed = random.nextInt();
        int[] drawn = model.drawn(order, seed, spot, count, n);
        for (int part = 0; part <= 1; part++) {
            DUE.is(run + "sure " + part, x.sure(2, part), sure[part]);
            DUE.is(run + "mean " + part, x.mean(2, yc, n, part), mean[part]);
            DUE.is(run + "drawn " + part, x.drawn(2, seed, yc, 10 * n + part), drawn[part]);
        }
        int y = between(random, -999, 999);
        int to = random.nextInt(3) == 0 ? between(random, -999, 999)
            : Math.max(-999, Math.min(999, y + model.field[6] * between(random, -62, 62)));
        DUE.is(run + "windBy", x.windBy(y, to), model.windBy(y, to));
        DUE.is(run + "paper", x.paper(y), y + model.field[6] * (model.field[4] + model.field[5]));
    }

    /** Seen is what some order comes down by, at times bent a little. */
    private static void seen(Random random, OutByTurns x, Model model, String run) {
        long[] row = row(random, model.jumpers.size());
        List<Integer> order = model.order(row);
        Due.order(x, 3, row);
        int spot = between(random, -999, 999);
        int count = between(random, 1, 20);
        List<Integer> downs = new ArrayList<>();
        for (Model.Out out : model.drop(order, spot, count, model.field[7])) {
            downs.add(out.down());
        }
        if (random.nextInt(3) == 0) {
            downs.add(random.nextInt(100));
        }
        if (random.nextInt(3) == 0 && !downs.isEmpty()) {
            int i = random.nextInt(downs.size());
            downs.set(i, downs.get(i) + between(random, -1, 1));
        }
        List<Integer> seen = downs.subList(0, downs.size() - random.nextInt(downs.size() + 1) / 2);
        long[] elements = seen.stream().mapToLong(v -> v).toArray();
        Due.seen(x, 4, elements);
        int yc = Due.yc(spot, count);
        DUE.is(run + "judge", x.judge(34, yc), model.judge(order, seen, spot, count));
        DUE.is(run + "fromWhere", x.fromWhere(34, count), model.fromWhere(order, seen, count));
        int[] which = model.which(seen, spot, count);
        DUE.is(run + "which 0", x.which(4, yc, 0), which[0]);
        DUE.is(run + "which 1", x.which(4, yc, 1), which[1]);
    }

    private static String text(Random random, int depth) {
        StringBuilder text = new StringBuilder(expression(random, depth));
        while (random.nextInt(3) == 0) {
            text.append(random.nextInt(3) == 0 ? ";" : "?" + expression(random, depth) + ";");
            text.append(expression(random, depth));
        }
        return text.toString();
    }

    private static String expression(Random random, int depth) {
        StringBuilder text = new StringBuilder();
        do {
            text.append(single(random, depth)).append("+-*/%|&<=>".charAt(random.nextInt(10)));
        } while (random.nextInt(5) < 2);
        text.append(single(random, depth));
        return text.toString();
    }

    private static String single(Random random, int depth) {
        int sort = random.nextInt(depth > 0 ? 9 : 6);
        if (sort == 8) {
            return "(" + expression(random, depth - 1) + ")";
        }
        if (sort > 5) {
            return (sort == 6 ? "-" : "!") + single(random, depth - 1);
        }
        return sort < 2 ? "" + random.nextInt(sort == 0 ? 10 : 10000) : "" + "wsqabh".charAt(random.nextInt(6));
    }

    /** Texts that are right, texts bent at one place, cut off or deep; all must be told apart at the same byte. */
    private static void texts(Random random) {
        OutByTurns x = new OutByTurns();
        Model model = new Model();
        int[] j = {7, 3, 1, 0};
        model.jumpers.add(j);
        x.jumper(7, 3);
        x.mend(0, 2, 1);
        x.mend(0, 8, 13);
        x.mend(0, 9, -8);
        model.field[4] = 13;
        model.field[5] = -8;
        int right = 0;
        for (int i = 0; i < TEXTS; i++) {
            StringBuilder bent = new StringBuilder(text(random, between(random, 0, 8)));
            for (int bends = random.nextInt(3); bends > 0 && bent.length() > 0; bends--) {
                int place = random.nextInt(bent.length());
                char letter = LETTERS.charAt(random.nextInt(LETTERS.length()));
                switch (random.nextInt(4)) {
                    case 0 -> bent.setCharAt(place, letter);
                    case 1 -> bent.insert(place, letter);
                    case 2 -> bent.deleteCharAt(place);
                    default -> bent.setLength(place);
                }
            }
            bent.setLength(Math.min(120, bent.length()));
            String text = bent.toString();
            int fault = Model.fault(text);
            DUE.is("text " + text, Due.law(x, text), fault < 0 ? 1 : -100 - fault);
            if (fault < 0) {
                right++;
                model.law = text;
            }
            if (model.law != null) {
                DUE.is("worth of " + model.law, x.carried(0), model.carried(0));
            }
        }
        DUE.holds("many of the texts are right: " + right, right > TEXTS / 10 && right < TEXTS * 9 / 10);
    }
}
