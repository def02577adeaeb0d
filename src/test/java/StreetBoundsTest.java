import java.util.function.Consumer;

/** The bounds that Terms 1 and promises 1 to 10 name: THINGS, CHILDREN, KINDS, m, HAD, SAFE, IT. */
public final class StreetBoundsTest {
    private static final Due due = new Due();
    private static final Bounds bounds = new Bounds(due);

    public static void main(String[] args) {
        newObject();
        thing();
        ofThing();
        shift();
        child();
        ofChild();
        restOfM();
        paceByCalls();
        change();
        it();
        become();
        as();
        due.end();
    }

    /** "All as at first; no THINGS, CHILDREN": whatever names one of them is beyond. */
    private static void newObject() {
        due.promise(1);
        bounds.on(x -> { });
        bounds.refuses("ofThing(0, 0)", x -> x.ofThing(0, 0), Due.BEYOND);
        bounds.refuses("shift(0, 0, 0)", x -> x.shift(0, 0, 0), Due.BEYOND);
        bounds.refuses("ofChild(0, 0)", x -> x.ofChild(0, 0), Due.BEYOND);
        bounds.refuses("change(0, 0, 0)", x -> x.change(0, 0, 0), Due.BEYOND);
        bounds.refuses("it(0)", x -> x.it(0), Due.BEYOND);
        bounds.refuses("become(0, 0)", x -> x.become(0, 0), Due.BEYOND);
        bounds.refuses("as(0, 0)", x -> x.as(0, 0), Due.BEYOND);
        bounds.refuses("runsTo(0, 0, 0)", x -> x.runsTo(0, 0, 0), Due.BEYOND);
        bounds.refuses("stand(0, 0, 0)", x -> x.stand(0, 0, 0), Due.BEYOND);
        bounds.refuses("take(0, 0, 0)", x -> x.take(0, 0, 0), Due.BEYOND);
        bounds.refuses("called(1, 0)", x -> x.called(1, 0), Due.BEYOND);
        bounds.refuses("odds(0, 0, 0)", x -> x.odds(0, 0, 0), Due.BEYOND);
        bounds.refuses("voice(0, 0, 0)", x -> x.voice(0, 0, 0), Due.BEYOND);
        bounds.refuses("trace(0)", x -> x.trace(0), Due.NONE);
        bounds.refuses("restore()", x -> x.restore(), Due.NONE);
        for (int sheet = 0; sheet < 4; sheet++) {
            int missing = sheet;
            bounds.refuses("judge " + sheet, x -> x.judge(missing), Due.NONE);
        }
        bounds.only("it(-1)", x -> x.it(-1), -1);
        bounds.only("check()", x -> x.check(), 0);
        bounds.only("called(0, 0)", x -> x.called(0, 0), 63);
    }

    /** "THINGS (at most 8), each in a CELL (0 .. 11), with MARKS (0 to 63)". */
    private static void thing() {
        due.promise(2);
        bounds.on(Bounds::rich);
        bounds.range("thing: cell", 0, 11, (x, v) -> x.thing(v, 0), v -> 3);
        bounds.range("thing: marks", 0, 63, (x, v) -> x.thing(0, v), v -> 3);
        for (int cell : new int[] {0, 1, 10, 11}) {
            HomeCalls x = new HomeCalls();
            x.thing(cell, 7);
            due.is("it lies in CELL " + cell, x.ofThing(0, 0), cell);
        }
        for (int marks : new int[] {0, 1, 62, 63}) {
            HomeCalls x = new HomeCalls();
            x.thing(7, marks);
            due.is("it has MARKS " + marks, x.ofThing(0, 1), marks);
        }
        bounds.on(x -> Bounds.things(x, 6));
        bounds.gives("the seventh", x -> x.thing(11, 63), 6);
        bounds.on(x -> Bounds.things(x, 7));
        bounds.gives("the eighth", x -> x.thing(11, 63), 7);
        full(x -> Bounds.things(x, 8));
        full(x -> {
            Bounds.rich(x);
            Bounds.things(x, 8);
        });
    }

    private static void full(Consumer<HomeCalls> ready) {
        bounds.on(ready);
        bounds.refuses("the ninth", x -> x.thing(0, 0), Due.FULL);
        bounds.refuses("the ninth", x -> x.thing(11, 63), Due.FULL);
        bounds.outside("BEYOND ahead of FULL: cell", 0, 11, (x, v) -> x.thing(v, 0));
        bounds.outside("BEYOND ahead of FULL: marks", 0, 63, (x, v) -> x.thing(0, v));
    }

    private static void ofThing() {
        due.promise(3);
        bounds.on(Bounds::rich);
        bounds.range("ofThing: thing", 0, 2, (x, v) -> x.ofThing(v, 0), v -> new int[] {0, 5, 11}[v]);
        bounds.range("ofThing: what", 0, 1, (x, v) -> x.ofThing(2, v), v -> new int[] {11, 6}[v]);
        bounds.only("a question", x -> x.ofThing(2, 1), 6);
        bounds.on(x -> Bounds.things(x, 8));
        bounds.range("ofThing: of 8", 0, 7, (x, v) -> x.ofThing(v, 0), v -> v);
    }

    private static void shift() {
        due.promise(4);
        bounds.on(Bounds::rich);
        bounds.range("shift: thing", 0, 2, (x, v) -> x.shift(v, 0, 3), v -> new int[] {0, 5, 11}[v]);
        bounds.range("shift: what", 0, 1, (x, v) -> x.shift(2, v, 3), v -> new int[] {11, 6}[v]);
        bounds.range("shift: a CELL", 0, 11, (x, v) -> x.shift(1, 0, v), v -> 5);
        bounds.range("shift: MARKS", 0, 63, (x, v) -> x.shift(1, 1, v), v -> 63);
        // Numbers that are MARKS but no CELL.
        for (int v : new int[] {12, 63}) {
            bounds.refuses("shift(1, 0, " + v + ")", x -> x.shift(1, 0, v), Due.BEYOND);
        }
        bounds.range("shift, then ofThing: a CELL", 0, 11, (x, v) -> x.shift(1, 0, v) < -1 ? Due.BEYOND : x.ofThing(1, 0), v -> v);
        bounds.range("shift, then ofThing: MARKS", 0, 63, (x, v) -> x.shift(1, 1, v) < -1 ? Due.BEYOND : x.ofThing(1, 1), v -> v);
        bounds.on(x -> Bounds.things(x, 8));
        bounds.range("shift: of 8", 0, 7, (x, v) -> x.shift(v, 0, 11), v -> v);
    }

    /** "CHILDREN (at most 7), of KINDS 0 to 6, with a number m (0 to 9), AT a CELL". */
    private static void child() {
        due.promise(5);
        bounds.on(Bounds::rich);
        bounds.range("child: km", 0, 69, (x, v) -> x.child(v, 0), v -> 4);
        bounds.range("child: cell", 0, 11, (x, v) -> x.child(0, v), v -> 4);
        for (int km : new int[] {0, 9, 10, 11, 19, 20, 59, 60, 68, 69}) {
            HomeCalls x = new HomeCalls();
            x.child(km, 11);
            due.is("KIND of " + km, x.ofChild(0, 0), km / 10);
            due.is("m of " + km, x.ofChild(0, 1), km % 10);
            due.is("AT", x.ofChild(0, 2), 11);
            due.is("HAD", x.ofChild(0, 3), 0);
            due.is("SAFE", x.ofChild(0, 4), 0);
        }
        bounds.on(x -> Bounds.children(x, 5));
        bounds.gives("the sixth", x -> x.child(69, 11), 5);
        bounds.on(x -> Bounds.children(x, 6));
        bounds.gives("the seventh", x -> x.child(69, 11), 6);
        fullOfChildren(x -> Bounds.children(x, 7));
        fullOfChildren(x -> {
            Bounds.rich(x);
            Bounds.children(x, 7);
        });
    }

    private static void fullOfChildren(Consumer<HomeCalls> ready) {
        bounds.on(ready);
        bounds.refuses("the eighth", x -> x.child(0, 0), Due.FULL);
        bounds.refuses("the eighth", x -> x.child(69, 11), Due.FULL);
        bounds.outside("BEYOND ahead of FULL: km", 0, 69, (x, v) -> x.child(v, 0));
        bounds.outside("BEYOND ahead of FULL: cell", 0, 11, (x, v) -> x.child(0, v));
    }

    private static void ofChild() {
        due.promise(6);
        bounds.on(Bounds::rich);
        bounds.range("ofChild: child", 0, 3, (x, v) -> x.ofChild(v, 2), v -> new int[] {1, 4, 8, 10}[v]);
        // A CLERK with m 5, behind 3 CALLS: PACE 0 and 2.
        int[] clerk = {6, 5, 10, 6, 8, 2, 2};
        bounds.range("ofChild: what", 0, 6, (x, v) -> x.ofChild(3, v), v -> clerk[v]);
        for (int what = 0; what < 7; what++) {
            int w = what;
            bounds.only("a question " + what, x -> x.ofChild(3, w), clerk[what]);
        }
        bounds.refuses("both beyond, told once", x -> x.ofChild(4, 7), Due.BEYOND);
        bounds.on(x -> Bounds.children(x, 7));
        bounds.range("ofChild: of 7", 0, 6, (x, v) -> x.ofChild(v, 0), v -> v);
    }

    /** "BOY: that, and the rest of m by 2", "less the rest of m by 3", "and the rest of m by 3": each m from 0 to 9. */
    private static void restOfM() {
        due.promise(6);
        for (int m = 0; m < 10; m++) {
            HomeCalls x = new HomeCalls();
            for (int kind = 0; kind < 7; kind++) {
                x.child(10 * kind + m, 0);
            }
            int[] pace = {1, 1 + m % 2, 2, 1, 0, 3, 1 + m % 3};
            int[] far = {6, 5, 6 - m % 3, 2, 5, 7 - m % 3, 2};
            for (int kind = 0; kind < 7; kind++) {
                due.is("PACE of KIND " + kind + ", m " + m, x.ofChild(kind, 5), pace[kind]);
                due.is("FAR of KIND " + kind + ", m " + m, x.ofChild(kind, 6), far[kind]);
                x.it(kind);
                due.is("PACE of a SISTER, IT is " + kind, x.ofChild(5, 5), 2);
                x.it(-1);
            }
        }
    }

    /** "BROKER: 1, if 2 divides CALLS, else 0", from no CALLS to the last. */
    private static void paceByCalls() {
        due.promise(6);
        int[] calls = {0, 1, 2, 3, 9997, 9998, 9999};
        for (int many : calls) {
            HomeCalls x = new HomeCalls();
            Bounds.played(x, many);
            x.child(30, 0);
            x.child(62, 0);
            due.is("CALLS", x.count(2), many);
            due.is("BROKER behind " + many, x.ofChild(0, 5), many % 2 == 0 ? 1 : 0);
            due.is("CLERK behind " + many, x.ofChild(1, 5), many % 2 == 0 ? 3 : 2);
        }
    }

    /** "HAD (how often, 0 to 999), SAFE (how often, 0 to 999)". */
    private static void change() {
        due.promise(7);
        bounds.on(Bounds::rich);
        bounds.range("change: child", 0, 3, (x, v) -> x.change(v, 0, 5), v -> new int[] {1, 4, 8, 10}[v]);
        bounds.range("change: what", 0, 2, (x, v) -> x.change(2, v, 5), v -> new int[] {8, 5, 7}[v]);
        bounds.range("change: AT", 0, 11, (x, v) -> x.change(1, 0, v), v -> 4);
        bounds.range("change: HAD", 0, 999, (x, v) -> x.change(1, 1, v), v -> 4);
        bounds.range("change: SAFE", 0, 999, (x, v) -> x.change(1, 2, v), v -> 6);
        for (int what = 0; what < 3; what++) {
            int w = what;
            bounds.range("change, then ofChild " + what, 0, what == 0 ? 11 : 999,
                (x, v) -> x.change(1, w, v) < -1 ? Due.BEYOND : x.ofChild(1, 2 + w), v -> v);
        }
        for (int v : new int[] {12, 998, 999}) {
            bounds.refuses("how often, but no CELL " + v, x -> x.change(1, 0, v), Due.BEYOND);
        }
        bounds.on(x -> Bounds.children(x, 7));
        bounds.range("change: of 7", 0, 6, (x, v) -> x.change(v, 0, 11), v -> v);
    }

    private static void it() {
        due.promise(8);
        bounds.on(Bounds::rich);
        bounds.range("it: child", -1, 3, (x, v) -> x.it(v), v -> 1);
        bounds.range("it, then count(3)", -1, 3, (x, v) -> x.it(v) < -1 ? Due.BEYOND : x.count(3), v -> v);
        bounds.on(x -> { });
        bounds.range("it: of none", -1, -1, (x, v) -> x.it(v), v -> -1);
        bounds.on(x -> Bounds.children(x, 7));
        bounds.range("it: of 7", -1, 6, (x, v) -> x.it(v), v -> -1);
        // IT that is nobody may become nobody again.
        bounds.only("it(-1)", x -> x.it(-1), -1);
    }

    private static void become() {
        due.promise(9);
        bounds.on(Bounds::rich);
        bounds.range("become: child", 0, 3, (x, v) -> x.become(v, 0), v -> new int[] {1, 2, 4, 6}[v]);
        bounds.range("become: km", 0, 69, (x, v) -> x.become(2, v), v -> 4);
        bounds.range("become, then KIND", 0, 69, (x, v) -> x.become(2, v) < -1 ? Due.BEYOND : x.ofChild(2, 0), v -> v / 10);
        bounds.range("become, then m", 0, 69, (x, v) -> x.become(2, v) < -1 ? Due.BEYOND : x.ofChild(2, 1), v -> v % 10);
        bounds.only("one as it is", x -> x.become(3, 65), 6);
        bounds.on(x -> Bounds.children(x, 7));
        bounds.range("become: of 7", 0, 6, (x, v) -> x.become(v, 69), v -> v);
    }

    /** "KIND: it isn't of that KIND, nor of one under it." */
    private static void as() {
        due.promise(10);
        bounds.on(Bounds::rich);
        bounds.range("as: child", 0, 3, (x, v) -> x.as(v, 0), v -> new int[] {3, 7, 0, 5}[v]);
        bounds.outside("as: kind", 0, 6, (x, v) -> x.as(0, v));
        bounds.outside("BEYOND ahead of KIND: child", 0, 3, (x, v) -> x.as(v, 6));
        bounds.outside("BEYOND ahead of KIND: kind", 0, 6, (x, v) -> x.as(2, v));
        String[] is = {"0", "01", "02", "03", "014", "025", "036"};
        for (int own = 0; own < 7; own++) {
            int km = 10 * own + 9;
            bounds.on(x -> x.child(km, 0));
            for (int kind = 0; kind < 7; kind++) {
                int k = kind;
                if (is[own].indexOf('0' + kind) >= 0) {
                    bounds.only("KIND " + own + " as " + kind, x -> x.as(0, k), 9);
                } else {
                    bounds.refuses("KIND " + own + " as " + kind, x -> x.as(0, k), Due.KIND);
                }
            }
        }
        HomeCalls x = new HomeCalls();
        x.child(43, 0);
        x.become(0, 14);
        due.is("no more of the KIND that it was", x.as(0, 4), Due.KIND);
        due.is("of that which it has become", x.as(0, 1), 4);
    }
}
