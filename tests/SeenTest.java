/** Promises 23 to 25: drops seen read back. */
public final class SeenTest {
    private static final Due DUE = new Due("SeenTest");

    public static void main(String[] args) {
        judge();
        fromWhere();
        which();
        whichOfMany();
        wrongRows();
        wrongNumbers();
        DUE.end();
    }

    private static OutByTurns three() {
        OutByTurns x = Due.three();
        Due.order(x, 0, 0, 1, 2);
        return x;
    }

    private static void judged(String what, OutByTurns x, int due, long... yards) {
        Due.seen(x, 1, yards);
        DUE.is(what, x.judge(1, Due.yc(7, 5)), due);
    }

    private static void judge() {
        OutByTurns x = three();
        judged("all so", x, OutByTurns.NOT, 7, 107, 197);
        judged("none seen", x, OutByTurns.NOT);
        judged("one fewer", x, OutByTurns.NOT, 7, 107);
        judged("the first is not so", x, 0, 8, 107, 197);
        judged("the second is not so", x, 1, 7, 106, 197);
        judged("the third is not so", x, 2, 7, 107, -197);
        judged("two are not so", x, 1, 7, 0, 0);
        judged("one too much", x, 3, 7, 107, 197, 307);
        judged("many too much", x, 3, 7, 107, 197, 0, 0, 0, 0, 0, 0);
        judged("one not so, one too much", x, 1, 7, 108, 197, 307);
        x.mend(0, 11, 1);
        judged("against", x, OutByTurns.NOT, 7, 7, -3);
        Due.order(x, 0);
        judged("an order of nobody", x, 0, 7);
        judged("nobody, none seen", x, OutByTurns.NOT);
        Due.order(x, 5, 2, 0);
        Due.seen(x, 4, -909, -1049);
        DUE.is("shelves 5 and 4", x.judge(54, Due.yc(-999, 5)), OutByTurns.NOT);
    }

    private static void fromWhere() {
        OutByTurns x = three();
        Due.seen(x, 1, 7, 107, 197);
        DUE.is("from 7", x.fromWhere(1, 5), 7);
        DUE.is("not by another count", x.fromWhere(1, 6), Due.NONE);
        Due.seen(x, 1, -999, -899);
        DUE.is("from -999", x.fromWhere(1, 5), -999);
        Due.seen(x, 1, 999);
        DUE.is("from 999", x.fromWhere(1, 5), 999);
        Due.seen(x, 1, 1000);
        DUE.is("from 1000", x.fromWhere(1, 5), Due.NONE);
        Due.seen(x, 1, -1000);
        DUE.is("from -1000", x.fromWhere(1, 5), Due.NONE);
        Due.seen(x, 1);
        DUE.is("none seen: the least", x.fromWhere(1, 5), -999);
        Due.seen(x, 1, 7, 107, 197, 207);
        DUE.is("one too much", x.fromWhere(1, 5), Due.NONE);
        Due.order(x, 5, 2, 0);
        Due.seen(x, 4, 100, 60);
        DUE.is("shelves 5 and 4", x.fromWhere(54, 5), 10);
        Due.seen(x, 1, 57, 7);
        Due.order(x, 0, 1, 0);
        x.mend(0, 11, 1);
        DUE.is("against by 0 seconds", x.fromWhere(1, 0), Due.NONE);
        Due.seen(x, 1, 57, -43);
        DUE.is("against", x.fromWhere(1, 5), 7);
    }

    private static void whichIs(String what, OutByTurns x, int many, int first, long... yards) {
        Due.seen(x, 1, yards);
        DUE.is(what + ", how many", x.which(1, Due.yc(0, 5), 0), many);
        DUE.is(what + ", the first", x.which(1, Due.yc(0, 5), 1), first);
    }

    private static void which() {
        OutByTurns x = three();
        whichIs("none seen", x, 1, 0);
        whichIs("the second", x, 1, 1, 50);
        whichIs("nobody", x, 0, OutByTurns.NOT, 51);
        whichIs("2 and 0", x, 1, 20, 90, 50);
        whichIs("0 and 2", x, 1, 2, 0, 140);
        whichIs("1 2 0", x, 1, 120, 50, 140, 100);
        whichIs("one cannot go twice", x, 0, OutByTurns.NOT, 50, 100);
        whichIs("more than there are", x, 0, OutByTurns.NOT, 50, 140, 100, 150);
        x.mend(0, 11, 1);
        whichIs("against", x, 1, 120, 50, 40, -100);
        OutByTurns y = new OutByTurns();
        whichIs("none seen, no jumpers", y, 1, 0);
        whichIs("one seen, no jumpers", y, 0, OutByTurns.NOT, 0);
    }

    private static void whichOfMany() {
        OutByTurns x = new OutByTurns();
        for (int i = 0; i < 7; i++) {
            x.jumper(5, i / 2);
        }
        Due.law(x, "s*10");
        x.mend(0, 7, 10);
        whichIs("either of two", x, 2, 2, 10);
        whichIs("two of a kind", x, 2, 45, 20, 70);
        whichIs("two kinds, two each", x, 4, 20, 10, 50);
        whichIs("the last one", x, 1, 6, 30);
        whichIs("four", x, 4, 6452, 30, 70, 120, 160);
        whichIs("three of two", x, 0, OutByTurns.NOT, 20, 70, 120);
        whichIs("all four alike by twos", x, 4, 2345, 10, 60, 120, 170);
        whichIs("of five the first four count", x, 4, 2345, 10, 60, 120, 170, 230);
        whichIs("of five, the fifth not so", x, 4, 2345, 10, 60, 120, 170, 999);
    }

    private static void wrongRows() {
        OutByTurns x = three();
        Due.oddShelves(x);
        int yc = Due.yc(0, 5);
        Due.row(x, 5, 0, 0);
        DUE.wants("judge, the order", 0, shelf -> x.judge(10 * shelf + 4, yc), OutByTurns.BAD, -11, -12);
        DUE.wants("judge, seen", 1, shelf -> shelf > 5 ? x.judge(56, yc) : shelf < 0 ? x.judge(-1, yc) : x.judge(50 + shelf, yc), OutByTurns.BAD, -11, -12);
        DUE.wants("fromWhere, the order", 0, shelf -> x.fromWhere(10 * shelf + 4, 5), Due.NONE, Due.NONE, Due.NONE);
        DUE.wants("fromWhere, seen", 1, shelf -> x.fromWhere(50 + shelf, 5), Due.NONE, Due.NONE, Due.NONE);
        DUE.wants("which", 1, shelf -> x.which(shelf, yc, 0), OutByTurns.BAD, -11, -12);
        DUE.is("the order of another kind, nothing seen", x.judge(31, yc), -11);
        DUE.is("no order, seen of another kind", x.judge(13, yc), -11);
        DUE.is("both of another kind", x.judge(45, yc), -12);
    }

    private static void wrongNumbers() {
        OutByTurns x = three();
        Due.seen(x, 1, 0);
        int[] wrong = {-1, -10, 6, 9, 16, 60, 61, 100, 101, 1001, Integer.MIN_VALUE, Integer.MAX_VALUE};
        for (int so : wrong) {
            DUE.is("judge so " + so, x.judge(so, Due.yc(0, 5)), OutByTurns.BAD);
            DUE.is("fromWhere so " + so, x.fromWhere(so, 5), Due.NONE);
        }
        DUE.is("judge by 0", x.judge(1, Due.yc(0, 0)), OutByTurns.BAD);
        DUE.is("judge by 21, nothing there", x.judge(22, Due.yc(0, 21)), OutByTurns.BAD);
        DUE.is("judge from 1000", x.judge(1, Due.yc(1000, 5)), OutByTurns.BAD);
        DUE.is("fromWhere by 21", x.fromWhere(1, 21), Due.NONE);
        DUE.is("fromWhere by -1", x.fromWhere(1, -1), Due.NONE);
        DUE.is("which what -1", x.which(1, Due.yc(0, 5), -1), OutByTurns.BAD);
        DUE.is("which what 2", x.which(1, Due.yc(0, 5), 2), OutByTurns.BAD);
        DUE.is("which what 2, nothing there", x.which(2, Due.yc(0, 5), 2), OutByTurns.BAD);
        DUE.is("which by 0", x.which(1, Due.yc(0, 0), 0), OutByTurns.BAD);
    }
}
