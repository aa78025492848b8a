import java.lang.reflect.InvocationTargetException;
import java.lang.reflect.Method;
import java.util.ArrayList;
import java.util.Arrays;
import java.util.Collections;
import java.util.HashMap;
import java.util.List;
import java.util.Map;
import java.util.Random;

/** Promises 2 to 44: runs drawn from fixed seeds, every answer of every call as that of tests/Whole.java. */
public final class WholeTest {
    private static final Due DUE = new Due("WholeTest");
    private static final int RUNS = 500;
    private static final int CALLS = 512;

    /** How often a call is drawn, its name, what its arguments stand for. */
    private static final String[] FACE = {
        "3 jumper weight skill", "3 jumpers shelf place n", "14 mend number what12 v", "6 of number what12",
        "4 feed letter", "2 law", "6 carried number", "6 down shelf yc place", "8 drop shelf yc what3",
        "1 spotFor shelf count what2", "4 countFor shelf spot what2", "2 orderFor yc k", "1 pass shelf count what2",
        "1 runIn shelf count", "3 room shelf", "5 last shelf yc", "6 sticks shelf yc kn what2", "4 sure shelf what2",
        "3 mean shelf yc count what2", "3 paper spot", "1 windBy spot spot", "5 judge so yc", "2 fromWhere so count",
        "2 which shelf yc what2", "4 drawn shelf any yc nw", "9 begin spot", "20 go number seconds", "4 over",
        "8 led what6", "3 image", "2 back", "6 undo", "5 redo", "3 body kind", "8 act body what4 any", "9 trace place",
        "3 keep shelf body", "1 row shelf sort size", "12 put shelf place long", "8 element shelf place",
        "6 shift shelf place shelf place size", "5 taken shelf kind", "4 count what5"};

    /** Least and most of what an argument stands for; at times one goes beyond them. */
    private static final Map<String, int[]> BOUNDS = new HashMap<>();

    private static final int[] EDGES = {Integer.MIN_VALUE, Integer.MIN_VALUE + 1, OutByTurns.VOID, -1000, -101, -100, -10,
        -1, 0, 1, 7, 10, 61, 99, 100, 120, 256, 1000, 199821, 199901, Integer.MAX_VALUE - 1, Integer.MAX_VALUE};

    private static final String[] TEXTS = {"h*(a+b)-w*s", "w>5?-20;s*9", "q?40;!b?w*w;h-3", "(w<s)*50-20", "0-w%3*7",
        "9999", "-9999", "w*(", "1??2", "a|b&q", "((((((s))))))", "(((((((s)))))))", "", "w;;s", "12345", "s/0+w"};

    private final Random random;
    private final String run;
    private final OutByTurns x = new OutByTurns();
    private final Whole due = new Whole();
    private final Map<String, Method> calls = new HashMap<>();
    private final Map<String, Method> dues = new HashMap<>();
    private int left = CALLS;

    private WholeTest(int seed) {
        random = new Random(seed);
        run = "run " + seed;
        for (Method method : OutByTurns.class.getDeclaredMethods()) {
            calls.put(method.getName(), method);
        }
        for (Method method : Whole.class.getDeclaredMethods()) {
            if (calls.containsKey(method.getName()) && java.lang.reflect.Modifier.isPublic(method.getModifiers())) {
                dues.put(method.getName(), method);
            }
        }
    }

    public static void main(String[] args) throws ReflectiveOperationException {
        bounds("weight 1 9 skill 0 9 shelf 0 5 place 0 6 n 1 7 number 0 6 what2 0 1 what3 0 2 what4 0 3 what5 0 4 what6 0 5"
            + " what12 0 11 letter 0 255 count 1 20 spot -999 999 k -1 4 seconds 0 20 kind 0 7 body -1 12 sort 0 4"
            + " size 0 8");
        List<String> drawn = new ArrayList<>();
        for (String call : FACE) {
            drawn.addAll(Collections.nCopies(call.charAt(1) == ' ' ? call.charAt(0) - '0'
                : Integer.parseInt(call.substring(0, 2)), call.substring(call.indexOf(' ') + 1)));
        }
        DUE.is("calls of the face", FACE.length, OutByTurns.class.getMethods().length - Object.class.getMethods().length);
        for (int seed = 0; seed < RUNS; seed++) {
            new WholeTest(seed).draw(drawn);
        }
        DUE.end();
    }

    private static void bounds(String told) {
        String[] words = told.split(" ");
        for (int i = 0; i < words.length; i += 3) {
            BOUNDS.put(words[i], new int[] {Integer.parseInt(words[i + 1]), Integer.parseInt(words[i + 2])});
        }
    }

    private int between(int least, int most) {
        return least + random.nextInt(most - least + 1);
    }

    /** Beyond the 512th nothing is asked: what it would answer is free. */
    private long call(String name, Object... arguments) throws ReflectiveOperationException {
        if (left == 0) {
            return 0;
        }
        left--;
        String told = run + ", call " + (CALLS - left) + ", " + name + Arrays.toString(arguments);
        try {
            long answer = ((Number) calls.get(name).invoke(x, arguments)).longValue();
            DUE.is(told, answer, ((Number) dues.get(name).invoke(due, arguments)).longValue());
            return answer;
        } catch (InvocationTargetException thrown) {
            throw new IllegalStateException(told, thrown);
        }
    }

    private void draw(List<String> drawn) throws ReflectiveOperationException {
        for (int many = random.nextInt(3) == 0 ? 0 : between(0, 6); many > 0; many--) {
            call("jumper", between(1, 9), between(0, 9));
        }
        for (int many = between(0, 12); many > 0; many--) {
            call("body", between(0, 7));
        }
        layThrees();
        while (left > 0) {
            int sort = random.nextInt(120);
            if (sort < 4) {
                layOrder();
            } else if (sort < 6) {
                laySeen();
            } else if (sort < 7) {
                feedLaw();
            } else if (sort < 8) {
                mendOften();
            } else {
                drawOne(drawn.get(random.nextInt(drawn.size())).split(" "));
            }
        }
    }

    private void layThrees() throws ReflectiveOperationException {
        int many = between(0, 21);
        call("row", 1, 0, many);
        for (int i = 0; i < many; i++) {
            int most = i % 3 == 2 ? 1 : 9;
            call("put", 1, i, (long) between(i % 3 == 0 ? 1 : 0, random.nextInt(30) == 0 ? most + 1 : most));
        }
        call("jumpers", 1, random.nextInt(3) == 0 ? between(-1, 5) : 0, between(1, 7));
    }

    private void drawOne(String[] words) throws ReflectiveOperationException {
        Object[] arguments = new Object[words.length - 1];
        for (int i = 0; i < arguments.length; i++) {
            int v = argument(words[i + 1], arguments);
            arguments[i] = words[i + 1].equals("long") ? (Object) ((long) v << (random.nextInt(4) == 0 ? 7 : 0)) : v;
        }
        call(words[0], arguments);
    }

    private int argument(String name, Object[] ahead) {
        if (random.nextInt(60) == 0) {
            return EDGES[random.nextInt(EDGES.length)];
        }
        int near = random.nextInt(4) == 0 ? 999 : 150;
        switch (name) {
            case "any":
                return random.nextInt();
            case "long":
                return random.nextInt(4) == 0 ? random.nextInt() : between(-1, 7);
            case "v":
                return mended((Integer) ahead[1]);
            case "yc":
                return 100 * (between(-near - 1, near + 1) + 999) + between(0, random.nextInt(4) == 0 ? 21 : 5);
            case "kn":
                return 100 * between(0, 7) + between(0, 21);
            case "nw":
                return 10 * between(0, 21) + between(0, 1);
            case "so":
                return 10 * between(0, 2) + (random.nextInt(4) == 0 ? between(0, 9) : between(3, 5));
            case "shelf":
                return random.nextInt(4) == 0 ? between(-1, 6) : between(0, 2);
            case "spot":
                return between(-near, near);
            default:
                int[] bounds = BOUNDS.get(name);
                int beyond = random.nextInt(12) == 0 ? 1 : 0;
                return between(bounds[0] - beyond, bounds[1] + beyond);
        }
    }

    private int mended(int what) {
        int[] least = {0, -1, 0, 0, -400, -100, -200, 0, -31, -31, 0, 0};
        int[] most = {10, 10, 2, 13, 200, 500, 300, 100, 31, 31, 10, 2};
        if (what < 0 || what >= least.length || what == 6 && random.nextBoolean()) {
            return OutByTurns.VOID;
        }
        return what == 7 && random.nextBoolean() ? between(1, 6) : between(least[what], most[what]);
    }

    private void layOrder() throws ReflectiveOperationException {
        List<Integer> who = new ArrayList<>(List.of(0, 1, 2, 3, 4, 5, 6));
        who.removeIf(number -> number >= due.count(0) && random.nextInt(8) != 0);
        Collections.shuffle(who, random);
        int shelf = between(0, 2);
        int many = random.nextInt(3) == 0 ? random.nextInt(who.size() + 1) : who.size();
        call("row", shelf, 0, many);
        for (int k = 0; k < many; k++) {
            call("put", shelf, k, (long) who.get(k));
        }
    }

    /** What an ORDER comes DOWN by, asked for at once and a little later. */
    private void laySeen() throws ReflectiveOperationException {
        int yc = 100 * (between(-150, 300) + 999) + between(1, 20);
        int shelf = between(3, 5);
        int many = between(0, 5);
        call("row", shelf, 1, many);
        for (int k = 0; k < many; k++) {
            long down = call("down", 0, yc, k);
            call("put", shelf, k, down + (random.nextInt(12) == 0 ? 1 : 0));
        }
        call("judge", shelf, yc);
        call("fromWhere", shelf, yc % 100);
        call("which", shelf, yc, 0);
        call("which", shelf, yc, 1);
    }

    private void feedLaw() throws ReflectiveOperationException {
        for (char letter : TEXTS[random.nextInt(TEXTS.length)].toCharArray()) {
            call("feed", (int) letter);
        }
        call("law");
    }

    private void mendOften() throws ReflectiveOperationException {
        for (int many = random.nextInt(60); many > 0; many--) {
            int what = between(0, 11);
            call("mend", what < 4 ? between(0, 6) : 0, what, mended(what));
        }
        for (int many = random.nextInt(50); many > 0; many--) {
            call(random.nextInt(3) == 0 ? "redo" : "undo");
        }
    }
}
