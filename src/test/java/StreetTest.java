/** Promises 1 to 10: a new object, THINGS, CHILDREN. */
public final class StreetTest {
    private static final Due due = new Due();

    public static void main(String[] args) {
        newObject();
        thing();
        ofThing();
        shift();
        child();
        ofChild();
        pace();
        far();
        change();
        it();
        become();
        as();
        due.end();
    }

    private static void newObject() {
        due.promise(1);
        HomeCalls x = new HomeCalls();
        int[] counts = {0, 0, 0, -1, 0, 0, 0, 0, 0, 1};
        for (int what = 0; what < counts.length; what++) {
            due.is("count(" + what + ")", x.count(what), counts[what]);
        }
        for (int k = 1; k <= 5; k++) {
            due.is("told(" + k + ")", x.told(k), 0);
        }
        due.is("law(0, -9, 9, 9)", x.law(0, -9, 9, 9), 1);
        due.is("law(1, 0, 0, 0)", x.law(1, 0, 0, 0), 1);
        for (int sheet = 0; sheet < 4; sheet++) {
            due.is("judge(" + sheet + ")", x.judge(sheet), Due.NONE);
        }
        due.is("trace(0)", x.trace(0), Due.NONE);
        due.is("restore()", x.restore(), Due.NONE);
        due.is("check()", x.check(), 0);
        due.is("image()", x.image(), 1);
        due.is("ofThing(0, 0)", x.ofThing(0, 0), Due.BEYOND);
        due.is("ofChild(0, 0)", x.ofChild(0, 0), Due.BEYOND);
    }

    private static void thing() {
        due.promise(2);
        HomeCalls x = new HomeCalls();
        int[][] wrong = {{-1, 0}, {12, 0}, {0, -1}, {0, 64}, {12, 64}};
        for (int[] w : wrong) {
            due.is("thing, wrong", x.thing(w[0], w[1]), Due.BEYOND);
        }
        for (int far : Due.FAR_OFF) {
            due.is("thing(far, 0)", x.thing(far, 0), Due.BEYOND);
            due.is("thing(0, far)", x.thing(0, far), Due.BEYOND);
        }
        due.is("count(0)", x.count(0), 0);
        for (int i = 0; i < 8; i++) {
            due.is("thing", x.thing(i == 0 ? 0 : 11, i == 0 ? 0 : 63), i);
        }
        due.is("ninth thing", x.thing(0, 0), Due.FULL);
        due.is("BEYOND ahead of FULL", x.thing(12, 0), Due.BEYOND);
        due.is("count(0)", x.count(0), 8);
        due.is("told(4)", x.told(4), 1);
    }

    private static void ofThing() {
        due.promise(3);
        HomeCalls x = new HomeCalls();
        x.thing(11, 0);
        x.thing(0, 63);
        due.is("ofThing(0, 0)", x.ofThing(0, 0), 11);
        due.is("ofThing(0, 1)", x.ofThing(0, 1), 0);
        due.is("ofThing(1, 0)", x.ofThing(1, 0), 0);
        due.is("ofThing(1, 1)", x.ofThing(1, 1), 63);
        due.is("ofThing(2, 0)", x.ofThing(2, 0), Due.BEYOND);
        due.is("ofThing(-1, 0)", x.ofThing(-1, 0), Due.BEYOND);
        due.is("ofThing(0, 2)", x.ofThing(0, 2), Due.BEYOND);
        due.is("ofThing(0, -1)", x.ofThing(0, -1), Due.BEYOND);
        due.is("told(1)", x.told(1), 4);
    }

    private static void shift() {
        due.promise(4);
        HomeCalls x = new HomeCalls();
        x.thing(3, 9);
        due.is("shift(0, 0, 11)", x.shift(0, 0, 11), 3);
        due.is("shift(0, 0, 0)", x.shift(0, 0, 0), 11);
        due.is("shift(0, 1, 63)", x.shift(0, 1, 63), 9);
        due.is("shift(0, 1, 0)", x.shift(0, 1, 0), 63);
        int[][] wrong = {{0, 0, 12}, {0, 0, -1}, {0, 1, 64}, {0, 1, -1}, {0, 2, 0}, {0, -1, 0}, {1, 0, 0}, {-1, 0, 0}};
        for (int[] w : wrong) {
            due.is("shift, wrong", x.shift(w[0], w[1], w[2]), Due.BEYOND);
        }
        due.is("ofThing(0, 0)", x.ofThing(0, 0), 0);
        due.is("ofThing(0, 1)", x.ofThing(0, 1), 0);
    }

    private static void child() {
        due.promise(5);
        HomeCalls x = new HomeCalls();
        int[][] wrong = {{-1, 0}, {70, 0}, {0, -1}, {0, 12}};
        for (int[] w : wrong) {
            due.is("child, wrong", x.child(w[0], w[1]), Due.BEYOND);
        }
        for (int i = 0; i < 7; i++) {
            due.is("child", x.child(i == 6 ? 69 : 11 * i, i == 6 ? 11 : 2 * i), i);
        }
        due.is("eighth child", x.child(0, 0), Due.FULL);
        due.is("BEYOND ahead of FULL", x.child(70, 0), Due.BEYOND);
        due.is("count(1)", x.count(1), 7);
        due.is("ofChild(6, 0)", x.ofChild(6, 0), 6);
        due.is("ofChild(6, 1)", x.ofChild(6, 1), 9);
        due.is("ofChild(6, 2)", x.ofChild(6, 2), 11);
        due.is("ofChild(3, 0)", x.ofChild(3, 0), 3);
        due.is("ofChild(3, 1)", x.ofChild(3, 1), 3);
        due.is("ofChild(3, 2)", x.ofChild(3, 2), 6);
    }

    private static void ofChild() {
        due.promise(6);
        HomeCalls x = new HomeCalls();
        x.child(27, 5);
        x.change(0, 1, 12);
        x.change(0, 2, 34);
        int[] rows = {2, 7, 5, 12, 34, 2, 5};
        for (int what = 0; what < rows.length; what++) {
            due.is("ofChild(0, " + what + ")", x.ofChild(0, what), rows[what]);
        }
        due.is("ofChild(0, 7)", x.ofChild(0, 7), Due.BEYOND);
        due.is("ofChild(0, -1)", x.ofChild(0, -1), Due.BEYOND);
        due.is("ofChild(1, 0)", x.ofChild(1, 0), Due.BEYOND);
        due.is("ofChild(-1, 0)", x.ofChild(-1, 0), Due.BEYOND);
    }

    /** PACE of a KIND with m: by CALLS that 2 divides or not, by IT that is nobody or not. */
    private static void pace() {
        due.promise(6);
        for (int m = 0; m < 10; m++) {
            int[] evenNobody = {1, 1 + m % 2, 2, 1, 0, 3, 1 + m % 3};
            int[] oddNobody = {1, 1 + m % 2, 2, 0, 0, 3, m % 3};
            for (int kind = 0; kind < 7; kind++) {
                HomeCalls x = new HomeCalls();
                x.child(10 * kind + m, 0);
                due.is("pace", x.ofChild(0, 5), evenNobody[kind]);
                x.it(0);
                int even = evenNobody[kind] - (kind == 5 ? 1 : 0);
                due.is("pace, IT is somebody", x.ofChild(0, 5), even);
                x.call(0, 0);
                due.is("pace, odd", x.ofChild(0, 5), oddNobody[kind]);
                x.call(0, 0);
                due.is("pace, even again", x.ofChild(0, 5), even);
            }
        }
    }

    private static void far() {
        due.promise(6);
        for (int m = 0; m < 10; m++) {
            int[] far = {6, 5, 6 - m % 3, 2, 5, 7 - m % 3, 2};
            for (int kind = 0; kind < 7; kind++) {
                HomeCalls x = new HomeCalls();
                x.child(10 * kind + m, 0);
                due.is("far", x.ofChild(0, 6), far[kind]);
            }
        }
    }

    private static void change() {
        due.promise(7);
        HomeCalls x = new HomeCalls();
        x.child(0, 4);
        due.is("change(0, 0, 11)", x.change(0, 0, 11), 4);
        due.is("change(0, 0, 0)", x.change(0, 0, 0), 11);
        due.is("change(0, 1, 999)", x.change(0, 1, 999), 0);
        due.is("change(0, 1, 5)", x.change(0, 1, 5), 999);
        due.is("change(0, 2, 999)", x.change(0, 2, 999), 0);
        due.is("change(0, 2, 6)", x.change(0, 2, 6), 999);
        int[][] wrong = {{0, 0, 12}, {0, 0, -1}, {0, 1, 1000}, {0, 1, -1}, {0, 2, 1000}, {0, 2, -1},
            {0, 3, 0}, {0, -1, 0}, {1, 0, 0}, {-1, 0, 0}};
        for (int[] w : wrong) {
            due.is("change, wrong", x.change(w[0], w[1], w[2]), Due.BEYOND);
        }
        due.is("ofChild(0, 2)", x.ofChild(0, 2), 0);
        due.is("ofChild(0, 3)", x.ofChild(0, 3), 5);
        due.is("ofChild(0, 4)", x.ofChild(0, 4), 6);
    }

    private static void it() {
        due.promise(8);
        HomeCalls x = new HomeCalls();
        due.is("it(0)", x.it(0), Due.BEYOND);
        due.is("it(-1)", x.it(-1), -1);
        x.child(0, 0);
        x.child(0, 0);
        due.is("it(1)", x.it(1), -1);
        due.is("it(2)", x.it(2), Due.BEYOND);
        due.is("it(-2)", x.it(-2), Due.BEYOND);
        due.is("count(3)", x.count(3), 1);
        due.is("it(0)", x.it(0), 1);
        due.is("it(-1)", x.it(-1), 0);
        due.is("count(3)", x.count(3), -1);
    }

    private static void become() {
        due.promise(9);
        HomeCalls x = new HomeCalls();
        x.child(13, 4);
        x.change(0, 1, 8);
        due.is("become(0, 69)", x.become(0, 69), 1);
        due.is("ofChild(0, 0)", x.ofChild(0, 0), 6);
        due.is("ofChild(0, 1)", x.ofChild(0, 1), 9);
        due.is("ofChild(0, 2)", x.ofChild(0, 2), 4);
        due.is("ofChild(0, 3)", x.ofChild(0, 3), 8);
        due.is("become(0, 70)", x.become(0, 70), Due.BEYOND);
        due.is("become(0, -1)", x.become(0, -1), Due.BEYOND);
        due.is("become(1, 0)", x.become(1, 0), Due.BEYOND);
        due.is("become(-1, 0)", x.become(-1, 0), Due.BEYOND);
        due.is("become(0, 0)", x.become(0, 0), 6);
        due.is("ofChild(0, 1)", x.ofChild(0, 1), 0);
    }

    private static void as() {
        due.promise(10);
        // The KINDS that each is: itself and those above.
        String[] is = {"0", "01", "02", "03", "014", "025", "036"};
        for (int own = 0; own < 7; own++) {
            HomeCalls x = new HomeCalls();
            x.child(10 * own + own + 1, 0);
            int errors = 0;
            for (int kind = 0; kind < 7; kind++) {
                boolean fits = is[own].indexOf('0' + kind) >= 0;
                errors += fits ? 0 : 1;
                due.is("as(0, " + kind + ") of " + own, x.as(0, kind), fits ? own + 1 : Due.KIND);
            }
            due.is("told(5)", x.told(5), errors);
            due.is("as(0, 7)", x.as(0, 7), Due.BEYOND);
            due.is("as(0, -1)", x.as(0, -1), Due.BEYOND);
            due.is("as(1, 0)", x.as(1, 0), Due.BEYOND);
            due.is("as(-1, 0)", x.as(-1, 0), Due.BEYOND);
        }
    }
}
