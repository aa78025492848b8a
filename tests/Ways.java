import java.util.ArrayList;
import java.util.List;

/** A DROP's acts, each body written down as the document tells it, and found by the line of KINDS. */
final class Ways {
    private static final int GOES = 0, FALLS = 1, STEERS = 2, TELLS = 3;

    private final int n;
    private final List<Integer> line;
    private final List<Integer> trace;

    Ways(int n, int kind, List<Integer> trace) {
        this.n = n;
        this.line = line(kind);
        this.trace = trace;
    }

    /** The KIND and all that it is under, the nearest first. */
    static List<Integer> line(int kind) {
        return switch (kind) {
            case 0 -> List.of(0);
            case 1 -> List.of(1, 0);
            case 2 -> List.of(2, 0);
            case 3 -> List.of(3, 2, 0);
            case 4 -> List.of(4, 1, 0);
            case 5 -> List.of(5, 3, 2, 0);
            case 6 -> List.of(6, 0);
            default -> List.of(7, 4, 1, 0);
        };
    }

    private static List<Integer> bodies(int kind, int act) {
        List<Integer> bodies = new ArrayList<>();
        for (int at : line(kind)) {
            for (int body : bodiesOf(at)) {
                if (actOf(body) == act) {
                    bodies.add(body);
                }
            }
        }
        return bodies;
    }

    private static List<Integer> bodiesOf(int kind) {
        return switch (kind) {
            case 0 -> List.of(1, 10, 11, 2);
            case 1 -> List.of(20);
            case 2 -> List.of(30);
            case 3 -> List.of(40, 41);
            case 4 -> List.of(50);
            case 5 -> List.of(60);
            case 6 -> List.of(70);
            default -> List.of(80, 81);
        };
    }

    private static int actOf(int body) {
        return switch (body) {
            case 1, 20, 70 -> GOES;
            case 10, 30, 41, 80 -> FALLS;
            case 11, 40, 50 -> STEERS;
            default -> TELLS;
        };
    }

    int of(int act, int x) {
        return run(bodies(line.get(0), act), x);
    }

    /** Runs the first of these bodies; the rest are what super finds, one after another. */
    private int run(List<Integer> bodies, int x) {
        int body = bodies.get(0);
        List<Integer> above = bodies.subList(1, bodies.size());
        trace.add(body);
        return switch (body) {
            case 1 -> x + n;
            case 10 -> of(GOES, x) * 2;
            case 11 -> x ^ n;
            case 2 -> of(FALLS, x) - of(STEERS, 1);
            case 20 -> run(above, x) + 3;
            case 30 -> -run(above, x);
            case 40 -> run(above, x) * 3;
            case 41 -> run(above, x + 1);
            case 50 -> run(above, x) - of(GOES, 2);
            case 60 -> run(above, x) ^ 5;
            case 70 -> run(above, x) * 2;
            case 80 -> run(above, x) + of(STEERS, 2);
            default -> run(above, x) - 1;
        };
    }
}
