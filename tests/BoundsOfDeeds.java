/** In deed: the rest of part 4, promises 27 to 34. */
final class BoundsOfDeeds {
    private final Says says;

    private BoundsOfDeeds(Says says) {
        this.says = says;
    }

    static void ask(Says says) {
        BoundsOfDeeds bounds = new BoundsOfDeeds(says);
        bounds.begin();
        bounds.go();
        bounds.over();
        bounds.led();
        bounds.farthest();
        bounds.image();
        bounds.changes();
        bounds.forty();
        bounds.fortyOfSeveral();
        bounds.doneAgain();
    }

    private void begin() {
        OutByTurns x = Due.three();
        says.part(4, "BEGIN at a SPOT, run in as it is;");
        x.begin(0);
        x.mend(0, 11, 1);
        says.is("turned before anybody went", x.go(0, 3), -30);
        x.mend(0, 11, 0);
        says.is("turned again", x.go(1, 3), 50);
        says.promise(27, "BEGIN: the SPOT. VOID: BAD, or STATE (a drop is on).");
        says.is("a drop is on", x.begin(5), OutByTurns.VOID);
        says.is("it is where it was", x.led(5), 0);
        says.is("over()", x.over(), 2);
        says.is("begin(-1000)", x.begin(-1000), OutByTurns.VOID);
        says.is("begin(1000)", x.begin(1000), OutByTurns.VOID);
        says.is("no drop is on", x.led(5), OutByTurns.VOID);
        says.is("begin(999)", x.begin(999), 999);
        says.is("over()", x.over(), 0);
        says.is("begin(-999)", x.begin(-999), -999);
    }

    private void go() {
        OutByTurns x = Due.three();
        says.part(4, "GO of a JUMPER (who has not gone), n seconds (0 .. 20) behind the one ahead: where it comes DOWN;");
        x.begin(100);
        says.is("n -1", x.go(0, -1), OutByTurns.VOID);
        says.is("n 21", x.go(0, 21), OutByTurns.VOID);
        says.is("n 20 behind the SPOT", x.go(0, 20), 300);
        says.is("n 0", x.go(2, 0), 300 + 90);
        says.is("n 1", x.go(1, 1), 310 + 50);
        says.promise(28, "GO: DOWN. VOID: BAD, STATE (no drop is on, or it has gone).");
        for (int jumper = -1; jumper <= 7; jumper++) {
            says.is("has gone, or is none: " + jumper, x.go(jumper, 0), OutByTurns.VOID);
        }
        says.is("the least n", x.go(0, Integer.MIN_VALUE), OutByTurns.VOID);
        says.is("NOW", x.led(5), 310);
        says.is("jumps", x.led(1), 3);
        x.over();
        says.is("no drop is on", x.go(0, 0), OutByTurns.VOID);
        x.begin(0);
        says.is("in the next drop", x.go(0, 0), 0);
        says.is("once", x.go(0, 0), OutByTurns.VOID);
        says.is("none of these are jumps", x.led(1), 4);
    }

    private void over() {
        OutByTurns x = Due.three();
        says.part(4, "OVER: how many were GOOD of those that went.");
        x.begin(0);
        says.is("nobody", x.over(), 0);
        x.begin(0);
        x.go(1, 0);
        x.go(0, 4);
        says.is("10 yards, 4 seconds", x.over(), 0);
        x.begin(0);
        x.go(1, 0);
        x.go(2, 0);
        x.go(0, 5);
        says.is("0 yards, 5 seconds", x.over(), 3);
        x.begin(-99);
        x.go(0, 0);
        says.is("at FROM", x.over(), 1);
        x.begin(-100);
        x.go(0, 0);
        says.is("below FROM", x.over(), 0);
        x.begin(300);
        x.go(0, 0);
        x.go(1, 0);
        says.is("at TO, and one beyond", x.over(), 1);
        says.promise(29, "OVER: GOOD ones. STATE: no drop is on.");
        says.is("over again", x.over(), OutByTurns.STATE);
        says.is("of a new object", new OutByTurns().over(), OutByTurns.STATE);
    }

    private void ledIs(String what, OutByTurns x, int... due) {
        for (int i = 0; i < due.length; i++) {
            says.is(what + ", led(" + i + ")", x.led(i), due[i]);
        }
    }

    private void led() {
        OutByTurns x = Due.three();
        says.part(4, "LED: drops, jumps, GOOD ones, the farthest from the middle of THE FIELD, who that was (NOT; the first such),"
            + " where it is NOW (VOID: no drop is on).");
        ledIs("at first", x, 0, 0, 0, 0, OutByTurns.NOT, OutByTurns.VOID);
        x.begin(50);
        ledIs("nobody went", x, 0, 0, 0, 0, OutByTurns.NOT, 50);
        x.go(1, 0);
        ledIs("one at the middle", x, 0, 1, 0, 0, 1, 50);
        x.go(0, 10);
        ledIs("one farther", x, 0, 2, 0, 50, 0, 150);
        x.over();
        ledIs("over", x, 1, 2, 2, 50, 0, OutByTurns.VOID);
        x.begin(-40);
        x.go(2, 0);
        ledIs("one as far on the other side", x, 1, 3, 2, 50, 0, -40);
        x.go(1, 0);
        ledIs("one farther on the other side", x, 1, 4, 2, 90, 1, -40);
        x.over();
        x.begin(0);
        x.over();
        ledIs("a drop of nobody", x, 3, 4, 4, 90, 1, OutByTurns.VOID);
        says.promise(30, "LED: drops (what 0), jumps (1), GOOD (2), the farthest (3), who (4; NOT), NOW (5; VOID). VOID: BAD.");
        says.is("what -1", x.led(-1), OutByTurns.VOID);
        says.is("what 6", x.led(6), OutByTurns.VOID);
        says.is("the most what", x.led(Integer.MAX_VALUE), OutByTurns.VOID);
    }

    private void farthest() {
        OutByTurns x = Due.on(-99, 0, 3);
        says.part(4, "the farthest from the middle of THE FIELD");
        // -99 by 2, cut, is -49.
        x.begin(-49);
        x.go(0, 0);
        says.is("at the middle", x.led(3), 0);
        x.go(1, 1);
        says.is("10 yards off", x.led(3), 10);
        x.mend(0, 5, 999);
        says.is("it stays so", x.led(3), 10);
        x.go(2, 0);
        says.is("from the middle that is", x.led(3), 450 + 39);
    }

    private void image() {
        OutByTurns x = Due.three();
        says.promise(32, "It is laid back: drops. STATE: there is none.");
        says.is("none", x.back(), OutByTurns.STATE);
        x.begin(0);
        says.is("none of a drop that is on", x.back(), OutByTurns.STATE);
        says.is("that is on still", x.over(), 0);
        says.promise(31, "AN IMAGE is kept: drops.");
        says.is("one drop", x.image(), 1);
        x.begin(0);
        x.go(1, 2);
        says.is("one drop, one is on", x.image(), 1);
        says.part(4, "AN IMAGE keeps the drop that is on, what LED tells.");
        x.go(0, 5);
        x.over();
        says.is("back()", x.back(), 1);
        ledIs("as it was", x, 1, 1, 0, 30, 1, 20);
        x.over();
        x.begin(-500);
        x.go(2, 20);
        says.is("back() from another drop", x.back(), 1);
        says.is("who had gone has", x.go(1, 0), OutByTurns.VOID);
        says.is("who had not has not: 10 yards, 4 seconds", x.go(0, 4), 60);
        says.is("they MEET", x.over(), 0);
        says.is("back() again", x.back(), 1);
        x.mend(0, 8, 3);
        x.jumper(5, 1);
        x.over();
        says.is("back() once more", x.back(), 1);
        says.is("ABOVE is none of it", x.of(0, 8), 3);
        says.is("nor are JUMPERS", x.go(3, 0), 20 + 10);
        OutByTurns y = Due.three();
        says.is("of no drop", y.image(), 0);
        y.begin(0);
        y.go(2, 20);
        says.is("back() to no drop", y.back(), 0);
        ledIs("as at first", y, 0, 0, 0, 0, OutByTurns.NOT, OutByTurns.VOID);
    }

    private void changes() {
        OutByTurns x = Due.three();
        x.undo();
        says.part(4, "CHANGES (FROM, TO, WIRE, SPEED, ABOVE, BELOW, HEIGHT, RUN IN; all numbers of JUMPERS; telling the same number"
            + " is none) can be UNDONE, the latest first");
        says.is("none", x.count(2), 0);
        int[] v = {7, 8, 1, 12, -5, 250, 40, 50, -6, 7, 4, 1};
        int[] was = new int[12];
        for (int what = 0; what <= 11; what++) {
            was[what] = x.mend(0, what, v[what]);
            x.mend(0, what, v[what]);
            says.is("one each, " + what, x.count(2), what + 1);
        }
        says.promise(33, "UNDONE: how many may still be. STATE: none.");
        for (int what = 11; what >= 0; what--) {
            says.is("undo()", x.undo(), what);
            says.is("it is as it was, " + what, x.of(0, what), was[what]);
            says.is("the one ahead is not, " + what, x.of(0, Math.max(0, what - 1)), what == 0 ? was[0] : v[what - 1]);
        }
        says.is("no more", x.undo(), OutByTurns.STATE);
        says.is("of a new object", new OutByTurns().undo(), OutByTurns.STATE);
        says.promise(34, "DONE AGAIN: how many may still be. STATE: none.");
        for (int what = 0; what <= 11; what++) {
            says.is("redo()", x.redo(), 11 - what);
            says.is("it became that again, " + what, x.of(0, what), v[what]);
        }
        says.is("no more", x.redo(), OutByTurns.STATE);
        says.is("of a new object", new OutByTurns().redo(), OutByTurns.STATE);
    }

    private void forty() {
        OutByTurns x = new OutByTurns();
        says.part(4, "40 at most are kept; deeds are none.");
        for (int change = 1; change <= 40; change++) {
            x.mend(0, 5, 300 + change);
            says.is("kept", x.count(2), change);
        }
        x.mend(0, 5, 341);
        says.is("of 41", x.count(2), 40);
        x.mend(0, 5, 342);
        says.is("of 42", x.count(2), 40);
        x.begin(0);
        x.over();
        x.image();
        x.back();
        says.is("deeds are none", x.count(2), 40);
        for (int left = 39; left >= 0; left--) {
            says.is("undo()", x.undo(), left);
        }
        says.is("no more", x.undo(), OutByTurns.STATE);
        says.is("as behind the second", x.of(0, 5), 302);
        for (int left = 39; left >= 0; left--) {
            says.is("redo()", x.redo(), left);
        }
        says.is("no more again", x.redo(), OutByTurns.STATE);
        says.is("as at last", x.of(0, 5), 342);
    }

    private void fortyOfSeveral() {
        OutByTurns x = new OutByTurns();
        x.jumper(5, 3);
        x.jumper(5, 3);
        says.part(4, "40 at most are kept");
        x.mend(0, 8, 1);
        for (int v = 1; v <= 10; v++) {
            x.mend(1, 3, v);
            x.mend(0, 9, v);
            x.mend(0, 1, v % 2);
            x.mend(0, 10, v % 2 + 1);
        }
        says.is("of 41", x.count(2), 40);
        for (int v = 10; v >= 1; v--) {
            x.undo();
            says.is("HEIGHT", x.of(0, 10), v == 1 ? 9 : (v - 1) % 2 + 1);
            x.undo();
            says.is("SKILL of the first", x.of(0, 1), v == 1 ? 3 : (v - 1) % 2);
            x.undo();
            says.is("BELOW", x.of(0, 9), v - 1);
            x.undo();
            says.is("STICKS of the second", x.of(1, 3), v - 1);
        }
        says.is("the first of them is not kept", x.undo(), OutByTurns.STATE);
        says.is("ABOVE", x.of(0, 8), 1);
        for (int v = 1; v <= 10; v++) {
            x.redo();
            says.is("STICKS of the second again", x.of(1, 3), v);
            x.redo();
            says.is("BELOW again", x.of(0, 9), v);
            x.redo();
            says.is("SKILL of the first again", x.of(0, 1), v % 2);
            x.redo();
            says.is("HEIGHT again", x.of(0, 10), v % 2 + 1);
        }
    }

    private void doneAgain() {
        OutByTurns x = new OutByTurns();
        x.jumper(5, 3);
        says.part(4, "and DONE AGAIN (as long as no other came behind)");
        x.mend(0, 5, 301);
        x.mend(0, 5, 302);
        x.mend(0, 5, 303);
        x.undo();
        x.undo();
        says.is("the same number", x.mend(0, 5, 301), 301);
        says.is("a wrong one", x.mend(0, 5, 1000), -3000);
        x.jumper(5, 3);
        x.begin(0);
        says.is("these are none", x.redo(), 1);
        x.undo();
        x.mend(1, 3, 2);
        says.is("one that came behind", x.redo(), OutByTurns.STATE);
        says.is("two may be undone", x.count(2), 2);
        says.is("it is undone", x.undo(), 1);
        says.is("STICKS", x.of(1, 3), 0);
        says.is("the one ahead is undone", x.undo(), 0);
        says.is("TO", x.of(0, 5), 300);
        says.is("both again", x.redo(), 1);
        says.is("the latter too", x.redo(), 0);
        says.is("STICKS again", x.of(1, 3), 2);
    }
}
