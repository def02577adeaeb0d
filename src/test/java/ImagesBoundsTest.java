/** The bounds that promises 37 to 42 name: one IMAGE, 20 numbers that wait, what is counted and told. */
public final class ImagesBoundsTest {
    private static final int MIN = Integer.MIN_VALUE;
    private static final int MAX = Integer.MAX_VALUE;
    private static final Due due = new Due();
    private static final Bounds bounds = new Bounds(due);

    public static void main(String[] args) {
        howOften();
        noImage();
        imageOfNothing();
        imageOfAllFull();
        imageOfLastCall();
        inPlaceOfOneAhead();
        tell();
        checkHowMany();
        checkEach();
        count();
        countAtLimits();
        told();
        toldOfEach();
        due.end();
    }

    /** "How often that was done": once, twice, and no less by a restore(). */
    private static void howOften() {
        due.promise(37);
        HomeCalls x = new HomeCalls();
        for (int i = 1; i <= 100; i++) {
            due.is("image() " + i, x.image(), i);
            due.is("restore()", x.restore(), 0);
        }
        bounds.on(x1 -> { });
        bounds.gives("the first", y -> y.image(), 1);
        bounds.on(Bounds::rich);
        bounds.gives("the second", y -> y.image(), 2);
    }

    private static void noImage() {
        due.promise(38);
        bounds.on(x -> { });
        bounds.refuses("restore() of a new object", x -> x.restore(), Due.NONE);
        bounds.on(x -> {
            Bounds.things(x, 8);
            Bounds.children(x, 7);
            x.loose(7);
            Due.feed(x, "1+1");
            x.tell(0);
            x.voice(6, 3, 1);
            Due.sheet(x, 0, 8, 1, 2, 3);
        });
        bounds.refuses("restore() without an IMAGE", x -> x.restore(), Due.NONE);
        HomeCalls x = new HomeCalls();
        due.is("restore()", x.restore(), Due.NONE);
        due.is("image()", x.image(), 1);
        due.is("restore()", x.restore(), 0);
        due.is("told(2)", x.told(2), 1);
    }

    private static void imageOfNothing() {
        due.promise(38);
        HomeCalls x = new HomeCalls();
        x.image();
        Bounds.rich(x);
        due.is("in place of that of rich", x.restore(), 0);
        HomeCalls y = new HomeCalls();
        y.image();
        Bounds.things(y, 8);
        Bounds.children(y, 7);
        y.loose(40);
        y.it(3);
        y.seed(5);
        Due.text(y, 0, "0");
        Due.text(y, 1, "0");
        Due.feed(y, "1+".repeat(25));
        for (int i = 0; i < 20; i++) {
            y.tell(i);
        }
        due.is("CALLS", y.restore(), 0);
        int[] counts = {0, 0, 0, -1, 0, 0, 0, 0, 0, 1};
        for (int what = 0; what < counts.length; what++) {
            due.is("count(" + what + ")", y.count(what), counts[what]);
        }
        due.is("no TEXT 0", y.law(0, 0, 0, 0), 1);
        due.is("no TEXT 1", y.law(1, 0, 0, 0), 1);
        due.is("no THING", y.ofThing(0, 0), Due.BEYOND);
        due.is("no CHILD", y.ofChild(0, 0), Due.BEYOND);
        due.is("the first THING", y.thing(1, 1), 0);
        due.is("the first CHILD is as at first", y.child(0, 0), 0);
        due.is("HAD", y.ofChild(0, 3), 0);
        due.is("SAFE", y.ofChild(0, 4), 0);
    }

    private static void imageOfAllFull() {
        due.promise(38);
        HomeCalls x = new HomeCalls();
        Bounds.things(x, 8);
        Bounds.children(x, 7);
        for (int c = 0; c < 7; c++) {
            x.change(c, 1, 999 - c);
            x.change(c, 2, 99 + c);
        }
        x.become(6, 69);
        Due.text(x, 1, "n<3");
        Due.feed(x, "1+".repeat(24) + "d");
        x.feed('m', 1);
        for (int i = 0; i < 20; i++) {
            x.tell(i < 7 ? 999 - i : 5);
        }
        x.seed(MIN);
        x.it(6);
        x.image();
        x.check();
        x.text(1);
        for (int i = 0; i < 20; i++) {
            x.tell(-1);
        }
        Due.text(x, 1, "?".repeat(50));
        Due.text(x, 1, "0");
        x.shift(7, 0, 0);
        x.shift(7, 1, 63);
        x.change(6, 1, 0);
        x.become(6, 0);
        x.loose(1);
        x.it(-1);
        due.is("CALLS", x.restore(), 0);
        due.is("8 THINGS", x.thing(0, 0), Due.FULL);
        due.is("7 CHILDREN", x.child(0, 0), Due.FULL);
        due.is("50 bytes", x.feed(0, 1), Due.FULL);
        due.is("20 wait", x.tell(0), Due.FULL);
        due.is("told(4)", x.told(4), 4);
        due.is("the last THING", x.ofThing(7, 0) * 100 + x.ofThing(7, 1), 701);
        due.is("the last CHILD", x.ofChild(6, 0) * 1000 + x.ofChild(6, 3), 6993);
        due.is("its m", x.ofChild(6, 1), 9);
        due.is("IT", x.count(3), 6);
        due.is("z", x.count(9), MIN);
        due.is("the TEXT", x.law(1, 2, 0, 0) * 10 + x.law(1, 3, 0, 0), 10);
        due.is("7 of 20 are so", x.check(), 8);
        due.is("THE TAPE: md isn't one", x.text(0), -59);
        due.is("which stays", x.restore(), 0);
        due.is("20 wait again", x.count(7), 20);
        due.is("50 bytes again", x.count(6), 50);
    }

    private static void imageOfLastCall() {
        due.promise(38);
        HomeCalls x = new HomeCalls();
        Bounds.played(x, 9998);
        x.image();
        x.call(0, 0);
        due.is("STATE", x.call(0, 0), Due.STATE);
        due.is("CALLS", x.restore(), 9998);
        due.is("one more", x.call(0, 0), 0);
        x.image();
        due.is("CALLS", x.restore(), 9999);
        due.is("STATE again", x.call(0, 0), Due.STATE);
    }

    private static void inPlaceOfOneAhead() {
        due.promise(37);
        HomeCalls x = new HomeCalls();
        for (int things = 0; things <= 8; things++) {
            Bounds.things(x, things);
            due.is("image()", x.image(), things + 1);
            x.thing(0, 0);
            x.restore();
            due.is("the latest", x.count(0), things);
        }
    }

    /** "FULL: 20 wait." */
    private static void tell() {
        due.promise(39);
        for (int waiting : new int[] {0, 1, 18, 19}) {
            bounds.on(x -> wait(x, waiting));
            for (int v : new int[] {MIN, -1000000004, -1, 0, MAX}) {
                bounds.gives("behind " + waiting, x -> x.tell(v), waiting + 1);
            }
        }
        bounds.on(x -> wait(x, 20));
        for (int v : new int[] {MIN, -1, 0, MAX}) {
            bounds.refuses("behind 20", x -> x.tell(v), Due.FULL);
        }
        bounds.on(x -> {
            Bounds.rich(x);
            wait(x, 20);
        });
        bounds.refuses("behind 20", x -> x.tell(4), Due.FULL);
        bounds.gives("behind 20 that have been checked", x -> x.check() > 0 ? x.tell(4) : 0, 1);
    }

    private static void wait(HomeCalls x, int many) {
        for (int left = many - x.count(7); left > 0; left--) {
            x.tell(0);
        }
    }

    /** "Where there is none, none is so": as many as CHILDREN, one fewer, one more. */
    private static void checkHowMany() {
        due.promise(40);
        for (int children = 0; children <= 7; children++) {
            for (int waiting = 0; waiting <= 20; waiting++) {
                HomeCalls x = new HomeCalls();
                Bounds.children(x, children);
                wait(x, waiting);
                due.is(waiting + " for " + children, x.check(), waiting <= children ? 0 : children + 1);
                due.is("none do then", x.count(7), 0);
                due.is("none wait", x.check(), 0);
                due.is("no ERROR", x.told(1) + x.told(2) + x.told(3) + x.told(4) + x.told(5), 0);
            }
        }
    }

    /** "0; else 1 and the place (from 0) of the first that isn't so", by 1 more and 1 less. */
    private static void checkEach() {
        due.promise(40);
        int[] had = {0, 1, 500, 998, 999, 7, 0};
        for (int place = 0; place < 7; place++) {
            for (int off = -1; off <= 1; off++) {
                HomeCalls x = new HomeCalls();
                Bounds.children(x, 7);
                for (int c = 0; c < 7; c++) {
                    x.change(c, 1, had[c]);
                    x.change(c, 2, 300);
                }
                for (int c = 0; c < 7; c++) {
                    x.tell(had[c] + (c == place ? off : 0));
                }
                due.is("number " + place + " is off by " + off, x.check(), off == 0 ? 0 : 1 + place);
                for (int c = 0; c < 7; c++) {
                    x.tell(had[c] + (c >= place ? off : 0));
                }
                due.is("the first of several", x.check(), off == 0 ? 0 : 1 + place);
            }
        }
    }

    private static void count() {
        due.promise(41);
        bounds.on(Bounds::rich);
        int z = 77;
        for (int i = 0; i < 6; i++) {
            z = z * 1103515245 + 12345;
        }
        int[] counts = {3, 4, 3, 1, 18, 26, 3, 2, 9, z};
        for (int what = 0; what < 10; what++) {
            int w = what;
            bounds.only("count(" + what + ")", x -> x.count(w), counts[what]);
        }
        bounds.outside("count: what", 0, 9, (x, v) -> x.count(v));
        bounds.on(x -> { });
        int[] first = {0, 0, 0, -1, 0, 0, 0, 0, 0, 1};
        bounds.range("count, at first", 0, 9, (x, v) -> x.count(v), v -> first[v]);
    }

    private static void countAtLimits() {
        due.promise(41);
        HomeCalls x = new HomeCalls();
        Bounds.played(x, 9999);
        Bounds.things(x, 8);
        Bounds.children(x, 7);
        for (int c = 0; c < 7; c++) {
            x.change(c, 1, 999);
            x.change(c, 2, 998);
        }
        x.it(6);
        Due.feed(x, "1".repeat(50));
        wait(x, 20);
        x.voice(6, 3, 0);
        x.seed(-1000000001);
        int[] counts = {8, 7, 9999, 6, 6993, 6986, 50, 20, 9, -1000000001};
        for (int what = 0; what < 10; what++) {
            due.is("count(" + what + ")", x.count(what), counts[what]);
        }
        due.is("told(1)", x.told(1), 0);
    }

    /** "k 1 .. 5; BEYOND: another k (counted, too)." */
    private static void told() {
        due.promise(42);
        bounds.on(Bounds::rich);
        bounds.range("told: k", 1, 5, (x, v) -> x.told(v), v -> 1);
        for (int k = 1; k <= 5; k++) {
            int number = k;
            bounds.only("told(" + k + ")", x -> x.told(number), 1);
        }
        bounds.on(x -> { });
        bounds.range("told, at first: k", 1, 5, (x, v) -> x.told(v), v -> 0);
        HomeCalls x = new HomeCalls();
        for (int i = 0; i < 200; i++) {
            due.is("told(0)", x.told(0), Due.BEYOND);
            due.is("counted, too", x.told(1), i + 1);
        }
    }

    /** Each ERROR is told by its own k, as often as it was answered. */
    private static void toldOfEach() {
        due.promise(42);
        HomeCalls x = new HomeCalls();
        x.child(0, 0);
        wait(x, 20);
        for (int i = 1; i <= 30; i++) {
            x.thing(12, 0);
            x.trace(0);
            x.sheet(0, 8, -1);
            x.tell(0);
            x.as(0, 6);
            for (int k = 1; k <= 5; k++) {
                due.is("told(" + k + ")", x.told(k), i);
            }
        }
    }
}
