/** Promises 33 and 34: changes undone and done again. */
public final class ChangesTest {
    private static final Due DUE = new Due("ChangesTest");

    public static void main(String[] args) {
        undo();
        everyNumber();
        whatIsNone();
        noOtherBehind();
        forty();
        fortyOfSeveral();
        besideDeeds();
        DUE.end();
    }

    private static void undo() {
        OutByTurns x = new OutByTurns();
        x.jumper(5, 3);
        DUE.is("nothing to undo", x.undo(), OutByTurns.STATE);
        DUE.is("nothing to redo", x.redo(), OutByTurns.STATE);
        x.mend(0, 8, 4);
        x.mend(0, 8, 6);
        x.mend(0, 0, 9);
        DUE.is("three", x.count(2), 3);
        DUE.is("the latest first", x.undo(), 2);
        DUE.is("the weight", x.of(0, 0), 5);
        DUE.is("the wind still", x.of(0, 8), 6);
        DUE.is("the next", x.undo(), 1);
        DUE.is("the wind before", x.of(0, 8), 4);
        DUE.is("the first", x.undo(), 0);
        DUE.is("no wind", x.of(0, 8), 0);
        DUE.is("no more", x.undo(), OutByTurns.STATE);
        DUE.is("none may be undone", x.count(2), 0);
        DUE.is("again", x.redo(), 2);
        DUE.is("one may be undone", x.count(2), 1);
        DUE.is("the wind at first", x.of(0, 8), 4);
        DUE.is("again the second", x.redo(), 1);
        DUE.is("the wind then", x.of(0, 8), 6);
        DUE.is("again the third", x.redo(), 0);
        DUE.is("the weight then", x.of(0, 0), 9);
        DUE.is("no more again", x.redo(), OutByTurns.STATE);
        DUE.is("three again", x.count(2), 3);
    }

    private static void everyNumber() {
        OutByTurns x = new OutByTurns();
        x.jumper(5, 3);
        x.jumper(6, 4);
        int[] v = {7, 8, 1, 12, -5, 250, 40, 50, -6, 7, 4, 1};
        int[] was = {6, 4, 0, 0, -99, 300, OutByTurns.VOID, 36, 0, 0, 9, 0};
        for (int what = 0; what <= 11; what++) {
            int number = what < 4 ? 1 : 0;
            DUE.is("mend " + what, x.mend(number, what, v[what]), was[what]);
        }
        DUE.is("twelve changes", x.count(2), 12);
        for (int what = 11; what >= 0; what--) {
            int number = what < 4 ? 1 : 0;
            DUE.is("undo " + what, x.undo(), what);
            DUE.is("undone " + what, x.of(number, what), was[what]);
        }
        DUE.is("the other one's weight", x.of(0, 0), 5);
        for (int what = 0; what <= 11; what++) {
            int number = what < 4 ? 1 : 0;
            DUE.is("redo " + what, x.redo(), 11 - what);
            DUE.is("done again " + what, x.of(number, what), v[what]);
        }
    }

    private static void whatIsNone() {
        OutByTurns x = new OutByTurns();
        x.jumper(5, 3);
        DUE.is("the same number", x.mend(0, 7, 36), 36);
        DUE.is("is none", x.count(2), 0);
        x.mend(0, 7, 40);
        x.undo();
        DUE.is("the same number", x.mend(0, 7, 36), 36);
        DUE.is("a wrong one", x.mend(0, 7, 0), -3000);
        DUE.is("a jumper", x.jumper(5, 3), 1);
        Due.law(x, "0");
        DUE.is("came behind: none of them is a change", x.redo(), 0);
        DUE.is("done again", x.of(0, 7), 40);
    }

    private static void noOtherBehind() {
        OutByTurns x = new OutByTurns();
        x.mend(0, 8, 1);
        x.mend(0, 8, 2);
        x.mend(0, 8, 3);
        x.undo();
        x.undo();
        x.mend(0, 9, 5);
        DUE.is("another came behind", x.redo(), OutByTurns.STATE);
        DUE.is("two may be undone", x.count(2), 2);
        DUE.is("the other one", x.undo(), 1);
        DUE.is("below", x.of(0, 9), 0);
        DUE.is("above", x.of(0, 8), 1);
        DUE.is("the one ahead", x.undo(), 0);
        DUE.is("above at first", x.of(0, 8), 0);
        DUE.is("again, one left", x.redo(), 1);
        DUE.is("again, none left", x.redo(), 0);
        DUE.is("below again", x.of(0, 9), 5);
    }

    private static void forty() {
        OutByTurns x = new OutByTurns();
        for (int v = 1; v <= 40; v++) {
            x.mend(0, 5, 300 + v);
            DUE.is("may be undone", x.count(2), v);
        }
        x.mend(0, 5, 341);
        x.mend(0, 6, 5);
        DUE.is("40 at most", x.count(2), 40);
        DUE.is("undo the last", x.undo(), 39);
        DUE.is("no wire", x.of(0, 6), OutByTurns.VOID);
        for (int left = 38; left >= 0; left--) {
            DUE.is("undo", x.undo(), left);
            DUE.is("TO", x.of(0, 5), 302 + left);
        }
        DUE.is("the first two are not kept", x.undo(), OutByTurns.STATE);
        DUE.is("TO as the second made it", x.of(0, 5), 302);
        for (int left = 39; left >= 0; left--) {
            DUE.is("redo", x.redo(), left);
        }
        DUE.is("no more", x.redo(), OutByTurns.STATE);
        DUE.is("TO at last", x.of(0, 5), 341);
        DUE.is("the wire at last", x.of(0, 6), 5);
    }

    private static void fortyOfSeveral() {
        OutByTurns x = new OutByTurns();
        x.jumper(5, 3);
        x.jumper(6, 4);
        // The first of the two is forgotten, and each number behind it moves up one place.
        x.mend(0, 8, 1);
        for (int v = 1; v <= 20; v++) {
            x.mend(1, 3, v % 2 == 0 ? 2 : 1);
            x.mend(0, 0, v % 2 == 0 ? 5 : 4);
        }
        DUE.is("40 at most", x.count(2), 40);
        for (int v = 20; v >= 1; v--) {
            x.undo();
            DUE.is("the first one's weight", x.of(0, 0), v % 2 == 0 ? 4 : 5);
            x.undo();
            DUE.is("the second one's sticks", x.of(1, 3), v == 1 ? 0 : v % 2 == 0 ? 1 : 2);
        }
        DUE.is("no more", x.undo(), OutByTurns.STATE);
        DUE.is("the wind is not undone", x.of(0, 8), 1);
    }

    private static void besideDeeds() {
        OutByTurns x = new OutByTurns();
        x.jumper(5, 3);
        x.mend(0, 7, 10);
        x.begin(0);
        x.go(0, 1);
        DUE.is("a deed is none", x.undo(), 0);
        DUE.is("the drop is on", x.led(5), 10);
        x.over();
        x.image();
        x.back();
        DUE.is("nor is an image", x.redo(), 0);
        DUE.is("one drop", x.led(0), 1);
    }
}
