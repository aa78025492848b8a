/** Promises 27 to 32: a drop in deed, what is led, an image. */
public final class DeedTest {
    private static final Due DUE = new Due("DeedTest");

    public static void main(String[] args) {
        begin();
        go();
        against();
        turnsOnTheWay();
        whoMeets();
        over();
        ledAtFirst();
        farthest();
        now();
        image();
        imageOfEarlier();
        imageOfWhoMeets();
        DUE.end();
    }

    private static void led(String what, OutByTurns x, int... due) {
        for (int i = 0; i < due.length; i++) {
            DUE.is(what + ", led(" + i + ")", x.led(i), due[i]);
        }
    }

    private static void begin() {
        OutByTurns x = Due.three();
        DUE.is("begin(-1000)", x.begin(-1000), Due.NONE);
        DUE.is("begin(1000)", x.begin(1000), Due.NONE);
        DUE.is("no drop by these", x.led(5), Due.NONE);
        DUE.is("begin(-999)", x.begin(-999), -999);
        DUE.is("a drop is on", x.begin(0), Due.NONE);
        DUE.is("it goes on where it was", x.led(5), -999);
        DUE.is("over()", x.over(), 0);
        DUE.is("begin(999)", x.begin(999), 999);
    }

    private static void go() {
        OutByTurns x = Due.three();
        DUE.is("no drop is on", x.go(0, 0), Due.NONE);
        x.begin(100);
        DUE.is("at once", x.go(1, 0), 150);
        DUE.is("has gone", x.go(1, 0), Due.NONE);
        DUE.is("jumper -1", x.go(-1, 0), Due.NONE);
        DUE.is("jumper 3", x.go(3, 0), Due.NONE);
        DUE.is("n -1", x.go(0, -1), Due.NONE);
        DUE.is("n 21", x.go(0, 21), Due.NONE);
        DUE.is("none of these went", x.led(1), 1);
        DUE.is("20 seconds on", x.go(0, 20), 300);
        DUE.is("and 3", x.go(2, 3), 100 + 230 + 90);
        x.over();
        DUE.is("over, none goes", x.go(0, 0), Due.NONE);
        x.begin(0);
        DUE.is("in the next drop it may", x.go(1, 2), 70);
        x.mend(0, 7, 20);
        x.mend(1, 1, 0);
        DUE.is("by the speed that is", x.go(2, 2), 20 + 40 + 90);
        DUE.is("one who comes meanwhile", x.jumper(5, 1), 3);
        DUE.is("may go", x.go(3, 0), 60 + 10);
    }

    private static void against() {
        OutByTurns x = Due.three();
        x.mend(0, 11, 1);
        x.begin(50);
        DUE.is("against", x.go(0, 4), 10);
        DUE.is("farther against", x.go(1, 5), 10 - 50 + 50);
        DUE.is("now", x.led(5), -40);
        x.mend(0, 11, 0);
        DUE.is("upward again, run in as it is", x.go(2, 1), -30 + 90);
        DUE.is("now, upward again", x.led(5), -30);
        x.over();
        x.begin(50);
        DUE.is("upward the next time", x.go(0, 4), 90);
    }

    private static void turnsOnTheWay() {
        OutByTurns x = Due.three();
        x.begin(0);
        x.mend(0, 11, 1);
        DUE.is("nobody went: still at the SPOT", x.led(5), 0);
        DUE.is("against from the first on", x.go(0, 3), -30);
        x.undo();
        DUE.is("UNDONE: upward from where it is", x.go(1, 1), -20 + 50);
        x.redo();
        DUE.is("DONE AGAIN: downward from where it is", x.go(2, 5), -70 + 90);
        // -30, 30, 20: 10 yards between the last two, 5 seconds too.
        DUE.is("seconds go on whichever way it flies", x.over(), 3);
        x.mend(0, 11, 0);
        x.begin(0);
        x.go(2, 0);
        x.mend(0, 11, 1);
        x.go(1, 4);
        x.mend(0, 11, 0);
        x.go(0, 1);
        // 90, 10, -30: none near another.
        DUE.is("none meets", x.over(), 3);
        x.begin(0);
        x.go(1, 0);
        x.mend(0, 11, 1);
        x.mend(0, 7, 1);
        x.go(2, 1);
        x.mend(0, 7, 36);
        x.mend(0, 11, 0);
        x.go(0, 2);
        // 50, 89, 71; then the same with 50, 89, 49.
        DUE.is("there and back, none near", x.over(), 3);
        x.begin(0);
        x.go(1, 0);
        x.mend(0, 11, 1);
        x.mend(0, 7, 1);
        x.go(2, 1);
        x.mend(0, 7, 25);
        x.mend(0, 11, 0);
        x.go(0, 2);
        DUE.is("there and back, the first and the last meet", x.over(), 1);
    }

    private static void whoMeets() {
        OutByTurns x = Due.three();
        x.begin(0);
        x.go(2, 20);
        x.go(1, 4);
        x.go(0, 5);
        // 290, 290, 290: 4 and 5 seconds between.
        DUE.is("two meet, one is GOOD", x.over(), 1);
        x.begin(0);
        x.go(2, 0);
        x.go(0, 2);
        x.go(1, 2);
        // 90, 20, 90: 4 seconds between the first and the last.
        DUE.is("the first and the last meet", x.over(), 1);
        x.begin(0);
        x.go(2, 0);
        x.go(0, 2);
        x.go(1, 3);
        DUE.is("5 seconds between", x.over(), 3);
        x.begin(0);
        x.go(1, 0);
        x.go(0, 4);
        DUE.is("10 yards", x.over(), 0);
        x.mend(0, 7, 9);
        x.begin(0);
        x.go(1, 0);
        x.go(0, 4);
        DUE.is("14 yards", x.over(), 2);
        led("five drops", x, 5, 13, 7);
    }

    private static void over() {
        OutByTurns x = Due.three();
        DUE.is("no drop is on", x.over(), OutByTurns.STATE);
        x.begin(0);
        DUE.is("nobody went", x.over(), 0);
        DUE.is("it is over", x.over(), OutByTurns.STATE);
        x.begin(-99);
        x.go(0, 0);
        x.go(1, 20);
        DUE.is("two on the field", x.over(), 2);
        x.begin(-100);
        x.go(0, 0);
        DUE.is("one off it", x.over(), 0);
        x.mend(0, 6, 105);
        x.begin(100);
        x.go(0, 0);
        x.go(1, 20);
        DUE.is("one in the wire, one off", x.over(), 0);
        led("four drops", x, 4, 5, 2);
        DUE.is("begun is not led yet", x.begin(0), 0);
        led("while the fifth is on", x, 4, 5, 2);
    }

    private static void ledAtFirst() {
        OutByTurns x = Due.three();
        led("at first", x, 0, 0, 0, 0, OutByTurns.NOT, Due.NONE);
        DUE.is("led(-1)", x.led(-1), Due.NONE);
        DUE.is("led(6)", x.led(6), Due.NONE);
        x.begin(5);
        led("begun", x, 0, 0, 0, 0, OutByTurns.NOT, 5);
    }

    private static void farthest() {
        OutByTurns x = Due.three();
        x.begin(100);
        x.go(0, 0);
        led("in the middle of -99 and 300", x, 0, 1, 0, 0, 0, 100);
        x.go(1, 5);
        led("100 yards off", x, 0, 2, 0, 100, 1, 150);
        x.over();
        x.begin(0);
        x.go(0, 0);
        led("as far, below: the first such", x, 1, 3, 2, 100, 1, 0);
        x.over();
        x.begin(-1);
        x.go(0, 0);
        led("101 yards below", x, 2, 4, 3, 101, 0, -1);
        x.mend(0, 4, 300);
        led("as it was led", x, 2, 4, 3, 101, 0, -1);
        x.go(1, 0);
        led("from the new middle", x, 2, 5, 3, 251, 1, -1);
    }

    private static void now() {
        OutByTurns x = Due.three();
        x.begin(-10);
        DUE.is("where it begins", x.led(5), -10);
        x.go(0, 7);
        DUE.is("70 yards on", x.led(5), 60);
        x.go(2, 0);
        DUE.is("at once", x.led(5), 60);
        x.over();
        DUE.is("no drop is on", x.led(5), Due.NONE);
        x.begin(3);
        DUE.is("anew", x.led(5), 3);
    }

    private static void image() {
        OutByTurns x = Due.three();
        DUE.is("no image", x.back(), OutByTurns.STATE);
        x.begin(0);
        x.over();
        x.mend(0, 11, 1);
        x.begin(100);
        x.go(0, 0);
        x.go(1, 4);
        DUE.is("image()", x.image(), 1);
        x.mend(0, 11, 0);
        x.go(2, 2);
        x.over();
        x.begin(7);
        DUE.is("back()", x.back(), 1);
        led("as it was", x, 1, 2, 0, 10, 1, 60);
        DUE.is("who went has gone", x.go(1, 0), Due.NONE);
        DUE.is("who had not may go, run in as it is", x.go(2, 2), 80 + 90);
        DUE.is("those ahead met by 4 seconds and 10 yards", x.over(), 1);
        led("over", x, 2, 3, 1, 70, 2, Due.NONE);
        DUE.is("back() again", x.back(), 1);
        led("as it was again", x, 1, 2, 0, 10, 1, 60);
        DUE.is("RUN IN is none of it", x.of(0, 11), 0);
        DUE.is("nor are changes", x.count(2), 3);
    }

    private static void imageOfWhoMeets() {
        OutByTurns x = Due.three();
        x.begin(0);
        x.go(2, 5);
        x.image();
        x.over();
        x.begin(0);
        x.go(0, 20);
        x.go(1, 2);
        x.over();
        x.back();
        x.go(1, 4);
        // 140 and 140, 4 seconds apart; those of the later drop went at 20 and 22 seconds.
        DUE.is("by the seconds of the image", x.over(), 0);
        x.begin(0);
        x.go(2, 0);
        x.go(1, 4);
        DUE.is("image of two who met", x.image(), 1);
        x.over();
        x.begin(0);
        x.go(0, 0);
        x.go(1, 20);
        x.over();
        x.back();
        DUE.is("they have met", x.over(), 0);
    }

    private static void imageOfEarlier() {
        OutByTurns x = Due.three();
        DUE.is("image() at first", x.image(), 0);
        x.begin(0);
        x.go(2, 4);
        DUE.is("back() to it", x.back(), 0);
        led("at first", x, 0, 0, 0, 0, OutByTurns.NOT, Due.NONE);
        DUE.is("no drop is on", x.over(), OutByTurns.STATE);
        x.begin(0);
        x.go(2, 0);
        x.image();
        x.go(1, 4);
        x.over();
        x.begin(3);
        x.go(1, 0);
        x.go(0, 1);
        x.back();
        DUE.is("who went after the image has not gone", x.go(1, 4), 90);
        DUE.is("and meets the one ahead", x.over(), 0);
        x.begin(0);
        x.over();
        DUE.is("a later image", x.image(), 2);
        x.begin(0);
        x.over();
        DUE.is("back to the later one", x.back(), 2);
    }
}
