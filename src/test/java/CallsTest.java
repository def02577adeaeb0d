/** Promises 14 and 15: CALLS, and GAMES by draws. */
public final class CallsTest {
    private static final Due due = new Due();

    public static void main(String[] args) {
        callWrong();
        whoIsHad();
        runs();
        ways();
        knowing();
        holding();
        times();
        parity();
        loose();
        looseLimit();
        due.end();
    }

    private static void callWrong() {
        due.promise(14);
        HomeCalls x = new HomeCalls();
        x.child(0, 0);
        int[][] wrong = {{-1, 0}, {6, 0}, {0, -1}, {0, 10}};
        for (int[] w : wrong) {
            due.is("call, wrong", x.call(w[0], w[1]), Due.BEYOND);
        }
        for (int far : Due.FAR_OFF) {
            due.is("call(far, 0)", x.call(far, 0), Due.BEYOND);
            due.is("call(0, far)", x.call(0, far), Due.BEYOND);
        }
        due.is("count(2)", x.count(2), 0);
        due.is("count(4)", x.count(4), 0);
        due.is("call(5, 9)", x.call(5, 9), 1);
        due.is("count(2)", x.count(2), 1);
        due.is("without CHILDREN", new HomeCalls().call(0, 0), 0);
    }

    private static void whoIsHad() {
        due.promise(14);
        HomeCalls x = new HomeCalls();
        x.thing(3, 1);
        x.child(0, 3);
        x.child(0, 4);
        x.child(0, 5);
        x.child(40, 4);
        due.is("call(0, 1)", x.call(0, 1), 12);
        due.is("IT is the least", x.count(3), 2);
        int[][] ofChildren = {{3, 0, 1}, {3, 0, 1}, {4, 1, 0}, {4, 1, 0}};
        for (int c = 0; c < 4; c++) {
            for (int what = 2; what <= 4; what++) {
                due.is("ofChild(" + c + ", " + what + ")", x.ofChild(c, what), ofChildren[c][what - 2]);
            }
        }
        due.is("IT stays and is nothing", x.call(0, 1), 8);
        due.is("ofChild(2, 2)", x.ofChild(2, 2), 4);
        due.is("ofChild(2, 3)", x.ofChild(2, 3), 1);
        due.is("ofChild(2, 4)", x.ofChild(2, 4), 0);
        due.is("IT", x.count(3), 3);
        due.is("STUCK is IT, all are SAFE", x.call(0, 1), 0);
        due.is("IT is nobody", x.count(3), -1);
        due.is("HAD of all", x.count(4), 3);
        due.is("SAFE of all", x.count(5), 7);
        due.is("another mark", x.call(1, 0), 15);
        due.is("CALLS", x.count(2), 4);
    }

    /** How far PACE times t goes, no further than the THING. */
    private static void runs() {
        due.promise(14);
        for (int t = 0; t < 10; t++) {
            HomeCalls x = new HomeCalls();
            x.thing(5, 4);
            x.child(0, 0);
            x.child(20, 0);
            x.child(40, 0);
            x.child(50, 10);
            int had = x.call(2, t);
            due.is("CHILD", x.ofChild(0, 2), Math.min(t, 5));
            due.is("GIRL", x.ofChild(1, 2), Math.min(2 * t, 5));
            due.is("STUCK", x.ofChild(2, 2), 0);
            due.is("SISTER sees 7 off", x.ofChild(3, 2), (10 + Math.min(3 * t, 7)) % 12 == 5 ? 5 : (10 + 12 - Math.min(3 * t, 5)) % 12);
            due.is("HAD", had, (t < 5 ? 1 : 0) + (t < 3 ? 2 : 0) + 4 + (t < 2 ? 8 : 0));
        }
    }

    /** The shorter way, of two alike up; the nearest THING, of several the least; only with that mark. */
    private static void ways() {
        due.promise(14);
        HomeCalls up = new HomeCalls();
        up.thing(6, 1);
        up.child(0, 0);
        up.call(0, 1);
        due.is("of two alike up", up.ofChild(0, 2), 1);
        HomeCalls over = new HomeCalls();
        over.thing(5, 1);
        over.child(0, 11);
        over.call(0, 2);
        due.is("up over 11", over.ofChild(0, 2), 1);
        HomeCalls down = new HomeCalls();
        down.thing(9, 1);
        down.child(0, 1);
        down.call(0, 2);
        due.is("down over 0", down.ofChild(0, 2), 11);
        HomeCalls least = new HomeCalls();
        least.thing(9, 1);
        least.thing(3, 1);
        least.child(0, 0);
        least.child(0, 6);
        least.call(0, 1);
        due.is("of two alike the least THING", least.ofChild(0, 2), 11);
        due.is("of two alike the least THING, from the other side", least.ofChild(1, 2), 7);
        HomeCalls near = new HomeCalls();
        near.thing(9, 1);
        near.thing(2, 1);
        near.thing(1, 62);
        near.child(0, 0);
        near.call(0, 9);
        due.is("the nearest that has the mark", near.ofChild(0, 2), 2);
        HomeCalls far = new HomeCalls();
        far.thing(6, 1);
        far.child(10, 0);
        far.child(10, 1);
        far.child(30, 3);
        far.child(30, 4);
        due.is("FAR", far.call(0, 9), 5);
        due.is("6 off, BOY", far.ofChild(0, 2), 0);
        due.is("5 off, BOY", far.ofChild(1, 2), 6);
        due.is("3 off, BROKER", far.ofChild(2, 2), 3);
        due.is("2 off, BROKER", far.ofChild(3, 2), 6);
    }

    private static void knowing() {
        due.promise(14);
        HomeCalls x = new HomeCalls();
        x.thing(2, 3);
        x.thing(9, 3);
        x.child(1, 0);
        x.child(0, 0);
        x.child(4, 2);
        Due.text(x, 0, "d>b+1&m");
        due.is("2 off is known", x.call(0, 2), 6);
        due.is("it has m", x.ofChild(0, 2), 2);
        due.is("it has no m", x.ofChild(1, 2), 0);
        due.is("0 off isn't known, 5 off is", x.ofChild(2, 2), 0);
        x.it(-1);
        x.change(0, 0, 0);
        x.change(2, 0, 2);
        due.is("3 off and more are known", x.call(1, 3), 6);
        due.is("it runs to the further one", x.ofChild(0, 2), 9);
        due.is("so does that in a CELL with one", x.ofChild(2, 2), 11);
        due.is("nothing known", x.ofChild(1, 2), 0);

        HomeCalls stays = new HomeCalls();
        stays.thing(4, 1);
        stays.child(0, 4);
        Due.text(stays, 0, "0");
        due.is("knowing of none it is SAFE where it stays", stays.call(0, 9), 0);
        Due.text(stays, 0, "0-1");
        stays.change(0, 0, 3);
        due.is("below 0 is held: 0", stays.call(0, 9), 1);
    }

    private static void holding() {
        due.promise(14);
        HomeCalls x = new HomeCalls();
        x.thing(0, 4);
        x.thing(0, 5);
        x.thing(0, 9);
        x.thing(6, 63);
        x.child(40, 0);
        x.child(40, 0);
        x.child(40, 6);
        Due.text(x, 1, "n=2");
        due.is("two in CELL 0", x.call(0, 0), 4);
        x.it(1);
        due.is("IT doesn't count", x.call(0, 0), 5);
        x.it(-1);
        Due.text(x, 1, "x=5");
        due.is("MARKS of the least with that mark", x.call(0, 0), 4);
        x.it(-1);
        due.is("the least with mark 2", x.call(2, 0), 7);
        x.it(-1);
        Due.text(x, 1, "b=3&x=9");
        due.is("b", x.call(3, 0), 4);
        x.it(-1);
        Due.text(x, 1, "0-n");
        due.is("below 0 is held: 0", x.call(3, 0), 7);

        HomeCalls y = new HomeCalls();
        y.thing(6, 1);
        y.child(0, 5);
        y.child(0, 7);
        Due.text(y, 1, "n<2");
        due.is("in that CELL then, not before", y.call(0, 1), 3);
    }

    private static void times() {
        due.promise(14);
        HomeCalls x = new HomeCalls();
        x.thing(0, 1);
        x.child(40, 0);
        x.child(40, 1);
        x.change(0, 2, 998);
        x.change(1, 1, 998);
        for (int i = 0; i < 3; i++) {
            x.it(-1);
            due.is("call(0, 0)", x.call(0, 0), 2);
            due.is("SAFE, held", x.ofChild(0, 4), 999);
            due.is("HAD, held", x.ofChild(1, 3), 999);
        }
    }

    /** The PACE of a CALL is that of the CALLS and the IT ahead of it. */
    private static void parity() {
        due.promise(14);
        HomeCalls x = new HomeCalls();
        x.thing(2, 1);
        x.child(30, 0);
        x.call(0, 1);
        due.is("BROKER, 0 CALLS", x.ofChild(0, 2), 1);
        x.it(-1);
        x.call(0, 1);
        due.is("BROKER, 1 CALL", x.ofChild(0, 2), 1);
        x.it(-1);
        x.call(0, 1);
        due.is("BROKER, 2 CALLS", x.ofChild(0, 2), 2);
        HomeCalls y = new HomeCalls();
        y.thing(6, 1);
        y.child(50, 0);
        y.child(40, 0);
        y.call(0, 1);
        due.is("SISTER, IT is nobody", y.ofChild(0, 2), 3);
        y.change(0, 0, 0);
        y.it(1);
        y.call(0, 1);
        due.is("SISTER, IT is somebody", y.ofChild(0, 2), 2);
    }

    private static void loose() {
        due.promise(15);
        for (int seed : new int[] {1, 0, -1, 77777, Integer.MIN_VALUE}) {
            HomeCalls x = street();
            HomeCalls y = street();
            x.seed(seed);
            int z = seed;
            int times = 0;
            for (int game = 0; game < 40; game++) {
                z = z * 1103515245 + 12345;
                int mark = (z >>> 8) % 6;
                z = z * 1103515245 + 12345;
                int t = (z >>> 8) % 5;
                times += Integer.bitCount(y.call(mark, t));
            }
            due.is("loose(40)", x.loose(40), times);
            due.is("z", x.count(9), z);
            for (int what = 1; what < 6; what++) {
                due.is("count(" + what + ")", x.count(what), y.count(what));
            }
            for (int c = 0; c < 5; c++) {
                due.is("AT", x.ofChild(c, 2), y.ofChild(c, 2));
            }
        }
        HomeCalls x = street();
        for (int wrong : new int[] {0, 41, -1, Integer.MAX_VALUE, Integer.MIN_VALUE}) {
            due.is("loose, wrong", x.loose(wrong), Due.BEYOND);
        }
        due.is("z stays", x.count(9), 1);
        x.loose(1);
        due.is("one GAME, one CALL", x.count(2), 1);
        due.is("two draws", x.count(9), (1103515245 + 12345) * 1103515245 + 12345);
    }

    private static HomeCalls street() {
        HomeCalls x = new HomeCalls();
        x.thing(0, 11);
        x.thing(4, 21);
        x.thing(7, 38);
        for (int c = 0; c < 5; c++) {
            x.child(10 * c + c, 2 * c);
        }
        return x;
    }

    private static void looseLimit() {
        due.promise(15);
        HomeCalls x = new HomeCalls();
        for (int i = 0; i < 249; i++) {
            x.loose(40);
        }
        x.loose(38);
        due.is("CALLS", x.count(2), 9998);
        due.is("loose(2)", x.loose(2), Due.STATE);
        due.is("BEYOND ahead of STATE", x.loose(41), Due.BEYOND);
        int z = x.count(9);
        due.is("loose(40)", x.loose(40), Due.STATE);
        due.is("z stays", x.count(9), z);
        due.is("loose(1)", x.loose(1), 0);
        due.is("CALLS", x.count(2), 9999);
        due.is("loose(1)", x.loose(1), Due.STATE);
        due.promise(14);
        due.is("call(0, 0)", x.call(0, 0), Due.STATE);
        due.is("BEYOND ahead of STATE", x.call(6, 0), Due.BEYOND);
        due.is("CALLS", x.count(2), 9999);
        due.is("told(3)", x.told(3), 4);
        due.promise(16);
        x.child(30, 0);
        x.thing(1, 1);
        due.is("what would be goes on: BROKER, 9999", x.hadBy(0, 9), 1);
        due.promise(27);
        x.it(0);
        Due.sheet(x, 0, 8, 0, 0, 0);
        due.is("a ROW goes on: BROKER runs by the CALL at 10000", x.series(0, 1, 1), 0);
        due.is("CALLS", x.count(2), 9999);
    }
}
