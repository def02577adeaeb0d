/** Promises 16 to 28: what would be. Each changes nothing, which the last test asks of all at once. */
public final class ThoughtsTest {
    private static final Due due = new Due();

    public static void main(String[] args) {
        hadBy();
        runsTo();
        worstAndBest();
        stand();
        steps();
        take();
        lay();
        called();
        parts();
        never();
        series();
        odds();
        wrong();
        nothingChanges();
        due.end();
    }

    /** Marks 0: CELL 0, 1: CELL 3, 2: CELLS 0 and 6, 3: none, 4 and 5: CELL 9; STUCK in CELLS 0, 3, 6, 9 and 5. */
    private static HomeCalls stuckOnes() {
        HomeCalls x = new HomeCalls();
        x.thing(0, 1 + 4);
        x.thing(3, 2);
        x.thing(6, 4);
        x.thing(9, 16 + 32);
        for (int cell : new int[] {0, 3, 6, 9, 5}) {
            x.child(40, cell);
        }
        return x;
    }

    private static void hadBy() {
        due.promise(16);
        HomeCalls x = stuckOnes();
        int[] had = {30, 29, 26, 31, 23, 23};
        for (int mark = 0; mark < 6; mark++) {
            due.is("hadBy(" + mark + ", 9)", x.hadBy(mark, 9), had[mark]);
        }
        x.it(1);
        due.is("IT isn't", x.hadBy(3, 0), 29);
        due.is("without CHILDREN", new HomeCalls().hadBy(0, 0), 0);
    }

    private static void runsTo() {
        due.promise(17);
        HomeCalls x = new HomeCalls();
        x.thing(4, 1);
        x.child(0, 0);
        x.child(0, 7);
        int[] up = {0, 1, 2, 3, 4, 4, 4, 4, 4, 4};
        int[] down = {7, 6, 5, 4, 4, 4, 4, 4, 4, 4};
        for (int t = 0; t < 10; t++) {
            due.is("runsTo(0, 0, " + t + ")", x.runsTo(0, 0, t), up[t]);
            due.is("runsTo(1, 0, " + t + ")", x.runsTo(1, 0, t), down[t]);
        }
        due.is("runsTo(0, 1, 9)", x.runsTo(0, 1, 9), 0);
        x.it(0);
        due.is("IT stays", x.runsTo(0, 0, 9), 0);
        due.is("AT stays", x.ofChild(1, 2), 7);
    }

    private static void worstAndBest() {
        HomeCalls x = stuckOnes();
        due.promise(18);
        due.is("worst(0, 0)", x.worst(0, 0), 3);
        due.is("worst(0, 1)", x.worst(0, 1), 5);
        due.promise(19);
        due.is("best(0, 0)", x.best(0, 0), 2);
        due.is("best(0, 1)", x.best(0, 1), 3);
        HomeCalls alike = new HomeCalls();
        alike.thing(0, 2 + 8);
        alike.child(40, 0);
        alike.child(40, 5);
        due.promise(18);
        due.is("of several the least", alike.worst(0, 0), 0);
        due.is("how many", alike.worst(0, 1), 2);
        due.promise(19);
        due.is("of several the least", alike.best(0, 0), 1);
        due.is("how many", alike.best(0, 1), 1);
        HomeCalls run = new HomeCalls();
        run.thing(3, 1);
        run.thing(5, 2);
        run.child(0, 1);
        due.promise(18);
        due.is("by t", run.worst(2, 0), 1);
        due.is("by t", run.worst(4, 0), 2);
        due.promise(19);
        due.is("by t", run.best(1, 1), 1);
        due.is("by t", run.best(2, 1), 0);
        HomeCalls none = new HomeCalls();
        due.is("nobody: best", none.best(0, 0) + none.best(0, 1), 0);
        due.promise(18);
        due.is("nobody: worst", none.worst(0, 0) + none.worst(0, 1), 0);
    }

    private static void stand() {
        due.promise(20);
        HomeCalls x = stuckOnes();
        due.is("stand(4, 0, 0)", x.stand(4, 0, 0), 0);
        due.is("stand(4, 0, 1)", x.stand(4, 0, 1), 4);
        x.shift(1, 1, 2 + 8);
        x.shift(3, 1, 2 + 8 + 16);
        due.is("most marks", x.stand(4, 0, 0), 9);
        due.is("by how many", x.stand(4, 0, 1), 3);
        x.it(4);
        due.is("IT", x.stand(4, 0, 0), 0);
        due.is("IT", x.stand(4, 0, 1), 0);
        due.is("another", x.stand(0, 9, 0), 9);
        x.it(-1);
        Due.text(x, 1, "n<2");
        due.is("alone in the CELL", x.stand(4, 0, 1), 6);
        x.change(3, 0, 1);
        due.is("alone in CELL 9", x.stand(4, 0, 0), 9);
        HomeCalls none = new HomeCalls();
        none.child(0, 7);
        due.is("without THINGS", none.stand(0, 9, 0), 0);
        due.is("without THINGS", none.stand(0, 9, 1), 6);
        HomeCalls run = new HomeCalls();
        run.thing(5, 63);
        run.child(0, 7);
        due.is("one STEP away is enough", run.stand(0, 1, 0), 4);
        due.is("how many", run.stand(0, 1, 1), 0);
        due.is("AT stays", run.ofChild(0, 2), 7);
    }

    private static void steps() {
        due.promise(21);
        HomeCalls x = new HomeCalls();
        due.is("without CHILDREN", x.steps(0), 0);
        x.thing(6, 1);
        x.thing(2, 2);
        x.child(0, 0);
        due.is("steps(0)", x.steps(0), 6);
        due.is("steps(1)", x.steps(1), 2);
        due.is("steps(2)", x.steps(2), Due.NONE);
        x.child(40, 5);
        due.is("STUCK", x.steps(0), Due.NONE);
        x.it(1);
        due.is("STUCK is IT", x.steps(0), 6);
        due.is("steps(6)", x.steps(6), Due.BEYOND);
        due.is("steps(-1)", x.steps(-1), Due.BEYOND);
        x.it(0);
        x.change(1, 0, 6);
        due.is("steps(0)", x.steps(0), 0);
        due.is("told(2)", x.told(2), 2);
    }

    private static void take() {
        due.promise(22);
        HomeCalls x = new HomeCalls();
        x.thing(2, 3);
        x.thing(10, 1);
        x.thing(1, 2);
        x.thing(6, 1);
        x.child(0, 0);
        x.child(0, 2);
        due.is("HAD as it is", x.take(0, 0, 1), 0);
        due.is("no THING with that mark", x.take(0, 5, 9), 0);
        due.is("both that are 2 off", x.take(0, 0, 2), 3);
        due.is("all with that mark", x.take(0, 0, 9), 11);
        due.is("STEPS 4", x.take(1, 0, 4), 11);
        due.is("STEPS 3: 10 and 6 are 4 off", x.take(1, 0, 3), 1);
        x.it(0);
        due.is("IT", x.take(0, 0, 2), Due.NONE);
        due.is("MARKS stay", x.ofThing(0, 1), 3);

        HomeCalls least = new HomeCalls();
        least.thing(1, 1);
        least.thing(11, 1);
        least.child(0, 0);
        Due.text(least, 1, "n=2");
        least.child(40, 1);
        due.is("by one less of two in a CELL", least.take(0, 0, 1), 1);
        Due.text(least, 1, "n=1");
        due.is("alone it would be SAFE", least.take(0, 0, 1), 0);

        HomeCalls few = new HomeCalls();
        few.thing(3, 1);
        few.thing(3, 1);
        few.thing(4, 1);
        few.child(0, 2);
        few.child(40, 4);
        Due.text(few, 1, "n=1|b=1");
        due.is("two at 3, then 4 is crowded", few.take(0, 0, 9), 3);
        few.change(1, 0, 9);
        due.is("all three", few.take(0, 0, 9), 7);

        HomeCalls alike = new HomeCalls();
        alike.thing(6, 1);
        alike.thing(3, 1);
        alike.child(40, 3);
        alike.child(20, 5);
        Due.text(alike, 1, "n<2");
        due.is("without 0 it is crowded, without 1 there is none: the least", alike.take(0, 0, 1), 1);

        HomeCalls eight = new HomeCalls();
        for (int i = 0; i < 8; i++) {
            eight.thing(5, 32);
        }
        eight.child(0, 5);
        due.is("all eight", eight.take(0, 5, 0), 255);

        HomeCalls numbers = new HomeCalls();
        for (int cell : new int[] {1, 2, 11, 2, 10}) {
            numbers.thing(cell, 1);
        }
        numbers.child(0, 0);
        Due.text(numbers, 1, "0=0");
        due.is("the near ones", numbers.take(0, 0, 1), 5);

        HomeCalls several = new HomeCalls();
        several.thing(0, 1 + 2);
        several.thing(0, 1 + 4);
        several.thing(0, 1 + 4);
        several.thing(0, 1 + 8);
        several.child(40, 0);
        Due.text(several, 1, "!(x=9)");
        due.is("the least THING left is another", several.take(0, 0, 0), 7);
        Due.text(several, 1, "x=3");
        due.is("one is enough", several.take(0, 0, 0), 1);
        Due.text(several, 1, "x=9");
        due.is("none is enough", several.take(0, 0, 0), 0);
    }

    private static void lay() {
        due.promise(23);
        HomeCalls x = stuckOnes();
        due.is("lay(0, 0, 0)", x.lay(0, 0, 0), 3);
        due.is("lay(0, 0, 1)", x.lay(0, 0, 1), 3);
        due.is("lay(1, 0, 0)", x.lay(1, 0, 0), 0);
        due.is("lay(3, 9, 1)", x.lay(3, 9, 1), 4);
        x.change(1, 0, 6);
        due.is("two in CELL 6", x.lay(0, 0, 0), 6);
        due.is("how many", x.lay(0, 0, 1), 2);
        Due.text(x, 1, "x=8");
        due.is("that mark alone", x.lay(3, 0, 1), 3);
        due.is("with another mark ahead", x.lay(0, 0, 1), 5);
        due.is("THINGS", x.count(0), 4);
        for (int i = 0; i < 4; i++) {
            x.thing(1, 0);
        }
        due.is("8 THINGS", x.lay(0, 0, 0), Due.FULL);
        due.is("BEYOND ahead of FULL", x.lay(6, 0, 0), Due.BEYOND);
        HomeCalls run = new HomeCalls();
        run.child(0, 0);
        run.child(0, 11);
        run.child(40, 2);
        due.is("where all get to", run.lay(4, 9, 0), 2);
        due.is("STEPS 1: two of them at CELL 0", run.lay(4, 1, 0), 0);
        due.is("STEPS 1", run.lay(4, 1, 1), 1);
        HomeCalls none = new HomeCalls();
        due.is("without CHILDREN", none.lay(0, 0, 0) + none.lay(0, 0, 1), 0);
    }

    private static void called() {
        due.promise(24);
        HomeCalls x = stuckOnes();
        due.is("called(23, 0)", x.called(23, 0), 48);
        due.is("called(30, 0)", x.called(30, 0), 1);
        due.is("called(31, 9)", x.called(31, 9), 8);
        due.is("called(22, 0)", x.called(22, 0), 0);
        due.is("called(0, 0)", x.called(0, 0), 0);
        due.is("called(32, 0)", x.called(32, 0), Due.BEYOND);
        due.is("called(-1, 0)", x.called(-1, 0), Due.BEYOND);
        due.is("without CHILDREN", new HomeCalls().called(0, 0), 63);
        due.is("without CHILDREN", new HomeCalls().called(1, 0), Due.BEYOND);
    }

    private static void parts() {
        due.promise(25);
        HomeCalls x = stuckOnes();
        due.is("parts(0, 0): 3 HAD, 2 SAFE", x.parts(0, 0), 2);
        due.is("parts(0, 1)", x.parts(0, 1), 1);
        x.it(4);
        due.is("IT is in neither", x.parts(0, 0), 2);
        due.is("IT is in neither", x.parts(0, 1), 0);
        HomeCalls y = new HomeCalls();
        y.thing(0, 2 + 16);
        y.child(40, 0);
        y.child(40, 0);
        y.child(40, 1);
        due.is("without sign", y.parts(0, 0), 1);
        due.is("without sign", y.parts(0, 1), 1);
        y.thing(1, 1);
        due.is("of several the least", y.parts(0, 0), 0);
        HomeCalls safe = new HomeCalls();
        safe.thing(0, 63);
        safe.child(0, 0);
        safe.child(0, 0);
        due.is("all SAFE", safe.parts(0, 1), 2);
        due.is("without CHILDREN", new HomeCalls().parts(0, 1), 0);
    }

    private static void never() {
        due.promise(26);
        HomeCalls x = stuckOnes();
        due.is("never(0)", x.never(0), 0);
        x.it(2);
        due.is("IT, too", x.never(0), 4);
        x.thing(3, 63);
        due.is("a THING with all MARKS", x.never(9), 6);
        due.is("without CHILDREN", new HomeCalls().never(0), 0);
        for (int mark = 0; mark < 6; mark++) {
            HomeCalls one = new HomeCalls();
            one.thing(0, 63 - (1 << mark));
            one.child(40, 0);
            one.child(40, 1);
            one.it(1);
            due.is("HAD by mark " + mark + " alone", one.never(0), 2);
        }
        HomeCalls run = new HomeCalls();
        run.thing(3, 31);
        run.thing(4, 32);
        run.child(0, 1);
        due.is("never(2)", run.never(2), 0);
        due.is("never(3)", run.never(3), 1);
    }

    private static void series() {
        due.promise(27);
        HomeCalls x = stuckOnes();
        due.is("missing", x.series(0, 0, 0), Due.NONE);
        due.is("BEYOND ahead of NONE", x.series(0, 10, 0), Due.BEYOND);
        x.sheet(0, 8, 0);
        x.it(3);
        due.is("no numbers: IT", x.series(0, 0, 0), 3);
        due.is("no numbers", x.series(0, 0, 1), 0);
        x.it(-1);
        Due.sheet(x, 0, 8, 1);
        due.is("one CALL: IT", x.series(0, 0, 0), 0);
        due.is("one CALL", x.series(0, 0, 1), 4);
        Due.sheet(x, 0, 16, 1, 0);
        due.is("IT is not HAD again", x.series(0, 0, 1), 8);
        due.is("IT", x.series(0, 0, 0), 1);
        // 6 is 0, 7 is 1, 8 is 0, -1 is 1, 13 is 5, 65541 is 5.
        int[][] alike = {{6, 0}, {7, 1}, {8, 0}, {-1, 1}, {13, 5}, {65541, 5}, {-3, 5}};
        for (int[] a : alike) {
            for (int bits : new int[] {8, 16, 32}) {
                Due.sheet(x, 1, bits, a[0], 3);
                Due.sheet(x, 2, bits, a[1], 3);
                due.is("as " + a[1] + ": " + a[0], x.series(1, 0, 1), Integer.bitCount(x.hadBy(a[1], 0)) + 4);
                due.is("as " + a[1] + ": " + a[0], x.series(1, 0, 0), x.series(2, 0, 0));
            }
        }
        HomeCalls all = new HomeCalls();
        all.thing(0, 63);
        all.child(40, 0);
        all.it(0);
        Due.sheet(all, 3, 32, 5);
        due.is("nobody is IT", all.series(3, 9, 0), -1);

        HomeCalls run = new HomeCalls();
        run.thing(4, 1);
        run.child(0, 0);
        run.child(40, 9);
        Due.sheet(run, 0, 8, 0, 0, 0, 0, 0, 0);
        due.is("they run on: both, and then each in turn", run.series(0, 1, 1), 7);
        due.is("AT stays", run.ofChild(0, 2), 0);
        due.is("CALLS stay", run.count(2), 0);
    }

    private static void odds() {
        due.promise(28);
        int[][] fractions = {{0, 1}, {1, 6}, {1, 3}, {1, 2}, {2, 3}, {5, 6}, {1, 1}};
        for (int safe = 0; safe <= 6; safe++) {
            HomeCalls x = new HomeCalls();
            x.thing(1, (1 << safe) - 1);
            x.child(0, 0);
            due.is("above, " + safe, x.odds(0, 1, 0), fractions[safe][0]);
            due.is("below, " + safe, x.odds(0, 1, 1), fractions[safe][1]);
            due.is("STEPS 0", x.odds(0, 0, 0), 0);
            due.is("STEPS 0", x.odds(0, 0, 1), 1);
            x.it(0);
            due.is("IT, above", x.odds(0, 1, 0), 0);
            due.is("IT, below", x.odds(0, 1, 1), 1);
        }
    }

    private static void wrong() {
        HomeCalls x = stuckOnes();
        x.sheet(0, 8, 1);
        int errors = 0;
        for (int far : new int[] {-1, 10, Integer.MIN_VALUE, Integer.MAX_VALUE}) {
            due.promise(16);
            due.is("hadBy(far, 0)", x.hadBy(far, 0), Due.BEYOND);
            due.is("hadBy(0, far)", x.hadBy(0, far), Due.BEYOND);
            due.promise(17);
            due.is("runsTo(far, 0, 0)", x.runsTo(far, 0, 0), Due.BEYOND);
            due.is("runsTo(0, far, 0)", x.runsTo(0, far, 0), Due.BEYOND);
            due.is("runsTo(0, 0, far)", x.runsTo(0, 0, far), Due.BEYOND);
            due.promise(18);
            due.is("worst(far, 0)", x.worst(far, 0), Due.BEYOND);
            due.is("worst(0, far)", x.worst(0, far), Due.BEYOND);
            due.promise(19);
            due.is("best(far, 0)", x.best(far, 0), Due.BEYOND);
            due.is("best(0, far)", x.best(0, far), Due.BEYOND);
            due.promise(20);
            due.is("stand(far, 0, 0)", x.stand(far, 0, 0), Due.BEYOND);
            due.is("stand(0, far, 0)", x.stand(0, far, 0), Due.BEYOND);
            due.is("stand(0, 0, far)", x.stand(0, 0, far), Due.BEYOND);
            due.promise(21);
            due.is("steps(far)", x.steps(far), Due.BEYOND);
            due.promise(22);
            due.is("take(far, 0, 0)", x.take(far, 0, 0), Due.BEYOND);
            due.is("take(0, far, 0)", x.take(0, far, 0), Due.BEYOND);
            due.is("take(0, 0, far)", x.take(0, 0, far), Due.BEYOND);
            due.promise(23);
            due.is("lay(far, 0, 0)", x.lay(far, 0, 0), Due.BEYOND);
            due.is("lay(0, far, 0)", x.lay(0, far, 0), Due.BEYOND);
            due.is("lay(0, 0, far)", x.lay(0, 0, far), Due.BEYOND);
            due.promise(24);
            due.is("called(0, far)", x.called(0, far), Due.BEYOND);
            due.promise(25);
            due.is("parts(far, 0)", x.parts(far, 0), Due.BEYOND);
            due.is("parts(0, far)", x.parts(0, far), Due.BEYOND);
            due.promise(26);
            due.is("never(far)", x.never(far), Due.BEYOND);
            due.promise(27);
            due.is("series(far, 0, 0)", x.series(far, 0, 0), Due.BEYOND);
            due.is("series(0, far, 0)", x.series(0, far, 0), Due.BEYOND);
            due.is("series(0, 0, far)", x.series(0, 0, far), Due.BEYOND);
            due.promise(28);
            due.is("odds(far, 0, 0)", x.odds(far, 0, 0), Due.BEYOND);
            due.is("odds(0, far, 0)", x.odds(0, far, 0), Due.BEYOND);
            due.is("odds(0, 0, far)", x.odds(0, 0, far), Due.BEYOND);
            errors += 29;
        }
        // The least numbers beyond: CHILD 5, mark 6, what 2, SHEET 4.
        int[] least = {x.hadBy(6, 0), x.runsTo(5, 0, 0), x.runsTo(0, 6, 0), x.worst(0, 2), x.best(0, 2), x.stand(5, 0, 0),
            x.stand(0, 0, 2), x.take(5, 0, 0), x.take(0, 6, 0), x.lay(6, 0, 0), x.lay(0, 0, 2), x.parts(0, 2),
            x.series(4, 0, 0), x.series(0, 0, 2), x.odds(5, 0, 0), x.odds(0, 0, 2)};
        for (int answer : least) {
            due.is("just beyond", answer, Due.BEYOND);
        }
        due.promise(42);
        due.is("told(1)", x.told(1), errors + least.length);
    }

    private static void nothingChanges() {
        HomeCalls x = stuckOnes();
        x.become(0, 11);
        x.become(1, 52);
        x.it(2);
        Due.text(x, 0, "d<6");
        Due.text(x, 1, "n<4");
        Due.sheet(x, 0, 8, 0, 1, 2, 3, 4, 5);
        String before = state(x);
        x.hadBy(0, 3);
        x.runsTo(0, 0, 3);
        x.worst(3, 0);
        x.best(3, 0);
        x.stand(0, 3, 0);
        x.steps(1);
        x.take(0, 2, 3);
        x.lay(3, 3, 0);
        x.called(3, 3);
        x.parts(3, 0);
        x.never(3);
        x.series(0, 3, 0);
        x.odds(0, 3, 0);
        due.is("state, changed by thought", state(x).equals(before) ? 1 : 0, 1);
    }

    private static String state(HomeCalls x) {
        StringBuilder all = new StringBuilder();
        for (int what = 0; what < 10; what++) {
            all.append(x.count(what)).append(' ');
        }
        for (int c = 0; c < x.count(1); c++) {
            for (int what = 0; what < 7; what++) {
                all.append(x.ofChild(c, what)).append(' ');
            }
        }
        for (int i = 0; i < x.count(0); i++) {
            all.append(x.ofThing(i, 0)).append(' ').append(x.ofThing(i, 1)).append(' ');
        }
        return all.toString();
    }
}
