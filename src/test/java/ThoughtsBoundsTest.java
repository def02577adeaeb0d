import java.util.function.IntUnaryOperator;

/** The bounds that Terms 3 and promises 16 to 28 name: least and most marks, STEPS, CELLS, sets, and ties. */
public final class ThoughtsBoundsTest {
    private static final Due due = new Due();
    private static final Bounds bounds = new Bounds(due);
    /** On a bare street IT is 1 and 0, 2 and 3 are HAD by every CALL. */
    private static final int HAD = 13;
    private static final int[] AT = {1, 4, 8, 10};

    public static void main(String[] args) {
        onlyThought();
        hadBy();
        runsTo();
        worst();
        best();
        stand();
        steps();
        takeWho();
        takeHowMany();
        takeFewest();
        lay();
        layFull();
        called();
        parts();
        never();
        series();
        numbersOfRow();
        rowBeyondLastCall();
        odds();
        due.end();
    }

    /** "All this is only thought": everything else stays as it was, at first, behind 9999 CALLS and on a rich street. */
    private static void onlyThought() {
        bounds.on(Bounds::rich);
        thoughts(2);
        bounds.on(ThoughtsBoundsTest::lastStreet);
        thoughts(0);
    }

    private static void thoughts(int child) {
        due.promise(16);
        bounds.thinks("hadBy", x -> x.hadBy(1, 9));
        due.promise(17);
        bounds.thinks("runsTo", x -> x.runsTo(child, 1, 9));
        due.promise(18);
        bounds.thinks("worst", x -> x.worst(9, 0));
        due.promise(19);
        bounds.thinks("best", x -> x.best(9, 1));
        due.promise(20);
        bounds.thinks("stand", x -> x.stand(child, 9, 0));
        due.promise(22);
        bounds.thinks("take", x -> x.take(child, 1, 9));
        due.promise(23);
        bounds.thinks("lay", x -> x.lay(1, 9, 0));
        due.promise(24);
        bounds.thinks("called", x -> x.called(1, 9));
        due.promise(25);
        bounds.thinks("parts", x -> x.parts(9, 0));
        due.promise(26);
        bounds.thinks("never", x -> x.never(9));
        due.promise(27);
        bounds.thinks("series", x -> x.series(0, 9, 0));
        bounds.thinks("series", x -> x.series(0, 9, 1));
        due.promise(28);
        bounds.thinks("odds", x -> x.odds(child, 9, 0));
    }

    /** 9999 CALLS, so that none may follow but in thought. */
    private static void lastStreet(HomeCalls x) {
        Bounds.played(x, 9999);
        x.thing(3, 2);
        x.child(30, 1);
        x.child(40, 3);
        x.it(1);
        Due.sheet(x, 0, 8, 1, 1);
    }

    private static void hadBy() {
        due.promise(16);
        bounds.on(Bounds::bare);
        bounds.range("hadBy: mark", 0, 5, (x, v) -> x.hadBy(v, 0), v -> HAD);
        bounds.range("hadBy: t", 0, 9, (x, v) -> x.hadBy(0, v), v -> HAD);
        bounds.on(ThoughtsBoundsTest::lastStreet);
        // BROKER: no PACE behind 9999 CALLS.
        bounds.range("hadBy behind 9999: t", 0, 9, (x, v) -> x.hadBy(1, v), v -> 1);
        for (int children = 0; children <= 7; children++) {
            HomeCalls x = new HomeCalls();
            Bounds.children(x, children);
            due.is("all of " + children, x.hadBy(0, 0), (1 << children) - 1);
            x.thing(0, 63);
            due.is("all but one of " + children, x.hadBy(5, 0), (1 << children) - 1 & ~1);
        }
    }

    private static void runsTo() {
        due.promise(17);
        bounds.on(Bounds::bare);
        bounds.range("runsTo: child", 0, 3, (x, v) -> x.runsTo(v, 0, 0), v -> AT[v]);
        bounds.range("runsTo: mark", 0, 5, (x, v) -> x.runsTo(3, v, 9), v -> 10);
        bounds.range("runsTo: t", 0, 9, (x, v) -> x.runsTo(3, 0, v), v -> 10);
        bounds.on(x -> Bounds.children(x, 7));
        bounds.range("runsTo: of 7", 0, 6, (x, v) -> x.runsTo(v, 0, 9), v -> v);
    }

    /** "The mark by which most would be HAD; of several the least; how many", from nobody to 7. */
    private static void worst() {
        due.promise(18);
        bounds.on(Bounds::bare);
        bounds.range("worst: t", 0, 9, (x, v) -> x.worst(v, 1), v -> 3);
        bounds.range("worst: what", 0, 1, (x, v) -> x.worst(9, v), v -> 3 * v);
        for (int mark = 0; mark < 6; mark++) {
            HomeCalls x = stuck(7);
            x.thing(0, 63 - (1 << mark));
            due.is("by one alone " + mark, x.worst(0, 0), mark);
            due.is("all 7", x.worst(0, 1), 7);
            HomeCalls y = stuck(7);
            y.thing(0, (1 << mark) - 1);
            due.is("by " + mark + " and those above", y.worst(0, 0), mark);
        }
        HomeCalls safe = stuck(7);
        safe.thing(0, 63);
        due.is("nobody by any", safe.worst(9, 0), 0);
        due.is("nobody by any", safe.worst(9, 1), 0);
        HomeCalls near = stuck(7);
        near.thing(0, 63);
        near.shift(0, 1, 62);
        near.change(0, 0, 1);
        near.thing(1, 2 + 4 + 8 + 16 + 32);
        near.thing(1, 1);
        due.is("6 by mark 0, nobody by the others", near.worst(0, 0) * 10 + near.worst(0, 1), 6);
        near.shift(1, 1, 2 + 4 + 8 + 16);
        near.shift(0, 1, 2 + 4 + 8 + 16);
        due.is("7 by mark 5, one more than by 0", near.worst(0, 0) * 10 + near.worst(0, 1), 57);
    }

    /** STUCK ones, all in CELL 0. */
    private static HomeCalls stuck(int many) {
        HomeCalls x = new HomeCalls();
        for (int c = 0; c < many; c++) {
            x.child(40, 0);
        }
        return x;
    }

    private static void best() {
        due.promise(19);
        bounds.on(Bounds::bare);
        bounds.range("best: t", 0, 9, (x, v) -> x.best(v, 1), v -> 3);
        bounds.range("best: what", 0, 1, (x, v) -> x.best(9, v), v -> 3 * v);
        for (int mark = 0; mark < 6; mark++) {
            HomeCalls x = stuck(7);
            x.thing(0, 1 << mark);
            due.is("by one alone " + mark, x.best(0, 0), mark);
            due.is("nobody", x.best(0, 1), 0);
            HomeCalls y = stuck(7);
            y.thing(0, 63 & -(1 << mark));
            due.is("by " + mark + " and those above", y.best(0, 0), mark);
        }
        HomeCalls all = stuck(7);
        due.is("all by each", all.best(9, 0), 0);
        due.is("all by each", all.best(9, 1), 7);
        all.it(6);
        due.is("all but IT", all.best(9, 1), 6);
    }

    /** "The CELL in which it would be HAD by fewest of the six CALLS; of several the least; by how many." */
    private static void stand() {
        due.promise(20);
        bounds.on(Bounds::bare);
        IntUnaryOperator byHowMany = v -> v == 1 ? 0 : 6;
        bounds.range("stand: child", 0, 3, (x, v) -> x.stand(v, 0, 1), byHowMany);
        bounds.range("stand: t", 0, 9, (x, v) -> x.stand(3, v, 1), v -> 6);
        bounds.range("stand: what", 0, 1, (x, v) -> x.stand(3, 9, v), v -> 6 * v);
        for (int cell = 0; cell < 12; cell++) {
            for (int marks = 0; marks <= 6; marks++) {
                HomeCalls x = new HomeCalls();
                x.child(40, 5);
                x.thing(cell, (1 << marks) - 1);
                due.is("CELL, " + marks + " marks in " + cell, x.stand(0, 0, 0), marks == 0 ? 0 : cell);
                due.is("by how many", x.stand(0, 0, 1), 6 - marks);
                x.thing((cell + 5) % 12, (1 << marks) - 1);
                due.is("the least of two", x.stand(0, 9, 0), marks == 0 ? 0 : Math.min(cell, (cell + 5) % 12));
                x.thing(11, 63);
                due.is("11 alone has them all", x.stand(0, 9, 1), 0);
            }
        }
        HomeCalls x = stuck(7);
        x.thing(11, 63);
        x.thing(10, 31);
        due.is("the last CELL", x.stand(6, 0, 0), 11);
        x.it(6);
        due.is("IT: the first CELL", x.stand(6, 0, 0), 0);
        due.is("IT: by none", x.stand(6, 0, 1), 0);
    }

    /** "The least t (0 to 9) with which nobody would be HAD." */
    private static void steps() {
        due.promise(21);
        bounds.on(x -> { });
        bounds.range("steps: mark", 0, 5, (x, v) -> x.steps(v), v -> 0);
        bounds.on(Bounds::bare);
        bounds.outside("steps: mark", 0, 5, (x, v) -> x.steps(v));
        for (int mark = 0; mark < 6; mark++) {
            int b = mark;
            bounds.refuses("with none " + mark, x -> x.steps(b), Due.NONE);
        }
        for (int off = 0; off <= 6; off++) {
            int o = off;
            bounds.on(x -> {
                x.thing(o, 32);
                x.child(0, 0);
                x.child(20, 0);
                x.child(40, o);
            });
            bounds.only(off + " off", x -> x.steps(5), off);
        }
        bounds.on(x -> {
            x.thing(6, 32);
            x.child(10, 0);
        });
        bounds.refuses("one CELL further than FAR", x -> x.steps(5), Due.NONE);
        bounds.on(ThoughtsBoundsTest::lastStreet);
        bounds.refuses("no PACE behind 9999 CALLS", x -> x.steps(1), Due.NONE);
        HomeCalls between = new HomeCalls();
        between.thing(3, 1);
        between.thing(3, 2);
        between.child(0, 0);
        between.child(20, 0);
        Due.text(between, 1, "n=1+(b=0)");
        due.is("both at 3 from STEPS 3 on", between.steps(0), 3);
        due.is("alone, never both SAFE", between.steps(1), Due.NONE);
    }

    private static void takeWho() {
        due.promise(22);
        bounds.on(x -> {
            Bounds.bare(x);
            x.it(-1);
        });
        bounds.range("take: child", 0, 3, (x, v) -> x.take(v, 0, 0), v -> 0);
        bounds.range("take: mark", 0, 5, (x, v) -> x.take(3, v, 9), v -> 0);
        bounds.range("take: t", 0, 9, (x, v) -> x.take(3, 5, v), v -> 0);
        bounds.on(Bounds::rich);
        bounds.refuses("IT", x -> x.take(1, 0, 0), Due.NONE);
        bounds.refuses("IT", x -> x.take(1, 5, 9), Due.NONE);
        bounds.outside("BEYOND ahead of NONE: mark", 0, 5, (x, v) -> x.take(1, v, 0));
        bounds.outside("BEYOND ahead of NONE: t", 0, 9, (x, v) -> x.take(1, 0, v));
        bounds.on(x -> {
            Bounds.children(x, 1);
            x.it(0);
        });
        bounds.refuses("IT, without THINGS", x -> x.take(0, 0, 0), Due.NONE);
    }

    /** From no THING to all 8. */
    private static void takeHowMany() {
        due.promise(22);
        for (int many = 0; many <= 8; many++) {
            HomeCalls x = stuck(1);
            for (int i = 0; i < many; i++) {
                x.thing(0, 1);
            }
            due.is("all of " + many, x.take(0, 0, 9), (1 << many) - 1);
            for (int i = 0; i < many; i++) {
                x.shift(i, 1, 2);
                due.is("all but " + i, x.take(0, 0, 9), (1 << many) - 1 & ~(1 << i));
                x.shift(i, 1, 1);
                x.shift(i, 0, 1);
                due.is("all here but " + i, x.take(0, 0, 9), (1 << many) - 1 & ~(1 << i));
                x.shift(i, 0, 0);
            }
        }
    }

    /** "The fewest THINGS; of several sets the least": one of a higher number goes ahead of two of lower ones. */
    private static void takeFewest() {
        due.promise(22);
        HomeCalls x = new HomeCalls();
        x.thing(0, 1);
        x.thing(0, 1);
        x.thing(4, 1);
        x.child(40, 0);
        x.child(0, 3);
        Due.text(x, 1, "n<2");
        due.is("without 2 the other comes, too", x.take(0, 0, 3), 4);
        x.thing(4, 1);
        due.is("as many: 0 and 1, not 2 and 3", x.take(0, 0, 3), 3);
        due.is("with 2 STEPS it doesn't come", x.take(0, 0, 2), 3);
        x.shift(3, 0, 0);
        due.is("2 alone again", x.take(0, 0, 3), 4);
        due.is("three, without the other", x.take(0, 0, 2), 11);
        x.shift(1, 0, 4);
        x.shift(3, 0, 4);
        due.is("0 alone, ahead of 1, 2 and 3", x.take(0, 0, 3), 1);
    }

    /** "The CELL in which one more THING would make fewest be HAD; of several the least; how many." */
    private static void lay() {
        due.promise(23);
        bounds.on(Bounds::bare);
        bounds.range("lay: mark", 0, 5, (x, v) -> x.lay(v, 0, 0), v -> 1);
        bounds.range("lay: t", 0, 9, (x, v) -> x.lay(0, v, 1), v -> 2);
        bounds.range("lay: what", 0, 1, (x, v) -> x.lay(5, 9, v), v -> 1 + v);
        for (int cell = 0; cell < 12; cell++) {
            HomeCalls x = new HomeCalls();
            for (int c = 0; c < 4; c++) {
                x.child(40, cell);
            }
            due.is("where all are " + cell, x.lay(0, 0, 0), cell);
            due.is("nobody", x.lay(0, 0, 1), 0);
            int other = (cell + 7) % 12;
            x.child(40, other);
            x.child(40, other);
            x.child(40, other);
            due.is("4 and 3", x.lay(5, 0, 0), cell);
            due.is("3 are HAD", x.lay(5, 0, 1), 3);
            x.change(0, 0, other);
            due.is("3 and 4", x.lay(5, 0, 0), other);
            x.it(1);
            x.change(0, 0, cell);
            due.is("3 but IT, and 3: the least", x.lay(5, 0, 0), Math.min(cell, other));
        }
        HomeCalls all = stuck(7);
        all.thing(0, 63);
        due.is("nobody is HAD anyway: the first CELL", all.lay(5, 0, 0), 0);
        all.change(0, 0, 11);
        due.is("the last CELL", all.lay(5, 0, 0), 11);
        Due.text(all, 1, "0");
        due.is("all 7 are HAD anyway: the first CELL", all.lay(5, 0, 0), 0);
        due.is("all 7", all.lay(5, 0, 1), 7);
    }

    private static void layFull() {
        due.promise(23);
        bounds.on(x -> {
            Bounds.bare(x);
            Bounds.things(x, 7);
        });
        bounds.only("7 THINGS", x -> x.lay(5, 0, 0), 1);
        bounds.on(x -> {
            Bounds.bare(x);
            Bounds.things(x, 8);
        });
        bounds.refuses("8 THINGS", x -> x.lay(5, 0, 0), Due.FULL);
        bounds.refuses("8 THINGS", x -> x.lay(0, 9, 1), Due.FULL);
        bounds.outside("BEYOND ahead of FULL: mark", 0, 5, (x, v) -> x.lay(v, 0, 0));
        bounds.outside("BEYOND ahead of FULL: t", 0, 9, (x, v) -> x.lay(0, v, 0));
        bounds.outside("BEYOND ahead of FULL: what", 0, 1, (x, v) -> x.lay(0, 0, v));
    }

    /** "BEYOND: also a set of others than CHILDREN." */
    private static void called() {
        due.promise(24);
        bounds.on(Bounds::bare);
        bounds.range("called: t", 0, 9, (x, v) -> x.called(HAD, v), v -> 63);
        bounds.range("called: children", 0, 15, (x, v) -> x.called(v, 9), v -> 0);
        bounds.only("just below", x -> x.called(HAD - 1, 0), 0);
        bounds.only("just these", x -> x.called(HAD, 0), 63);
        bounds.only("just above", x -> x.called(HAD + 1, 0), 0);
        for (int others : new int[] {16, 16 + HAD, 31, 128, 1 << 30}) {
            bounds.refuses("others, too", x -> x.called(others, 0), Due.BEYOND);
        }
        for (int many = 0; many <= 7; many++) {
            int all = (1 << many) - 1;
            int children = many;
            bounds.on(x -> Bounds.children(x, children));
            bounds.outside("called, of " + many, 0, all, (x, v) -> x.called(v, 0));
            bounds.gives("called, all " + many, x -> x.called(all, 0), 63);
            bounds.gives("called, nobody of " + many, x -> x.called(0, 0), many == 0 ? 63 : 0);
        }
        for (int mark = 0; mark < 6; mark++) {
            HomeCalls x = stuck(2);
            x.thing(0, 1 << mark);
            due.is("nobody by " + mark + " alone", x.called(0, 0), 1 << mark);
            due.is("both by the others", x.called(3, 0), 63 - (1 << mark));
            due.is("one by none", x.called(1, 0), 0);
        }
    }

    /** "Most alike in number (the difference least, without sign); of several the least; the difference." */
    private static void parts() {
        due.promise(25);
        bounds.on(Bounds::bare);
        bounds.range("parts: t", 0, 9, (x, v) -> x.parts(v, 1), v -> 3);
        bounds.range("parts: what", 0, 1, (x, v) -> x.parts(9, v), v -> 3 * v);
        for (int children = 0; children <= 7; children++) {
            for (int safe = 0; safe <= children; safe++) {
                HomeCalls x = stuck(children);
                for (int c = safe; c < children; c++) {
                    x.change(c, 0, 6);
                }
                x.thing(0, 63);
                int difference = Math.abs(children - 2 * safe);
                due.is(safe + " SAFE of " + children, x.parts(0, 1), difference);
                due.is("of several the least", x.parts(0, 0), 0);
                if (children > 0) {
                    x.it(0);
                    int others = safe > 0 ? Math.abs(children - 1 - 2 * (safe - 1)) : Math.abs(children - 1);
                    due.is("without IT", x.parts(0, 1), others);
                }
            }
        }
        for (int mark = 0; mark < 6; mark++) {
            HomeCalls x = stuck(7);
            for (int c = 0; c < 3; c++) {
                x.change(c, 0, 6);
            }
            x.thing(0, 1 << mark);
            due.is("4 and 3 by " + mark + " alone", x.parts(0, 0), mark);
            x.change(3, 0, 6);
            due.is("3 and 4 by " + mark + " alone", x.parts(0, 0) * 10 + x.parts(0, 1), mark * 10 + 1);
        }
    }

    private static void never() {
        due.promise(26);
        bounds.on(Bounds::bare);
        bounds.range("never: t", 0, 9, (x, v) -> x.never(v), v -> 2);
        for (int many = 0; many <= 7; many++) {
            int all = (1 << many) - 1;
            HomeCalls x = stuck(many);
            due.is("HAD by each", x.never(0), 0);
            if (many > 0) {
                x.it(many - 1);
                due.is("IT, the last", x.never(0), 1 << many - 1);
                x.it(-1);
            }
            x.thing(0, 63);
            due.is("by none", x.never(0), all);
            for (int mark = 0; mark < 6; mark++) {
                x.shift(0, 1, 63 - (1 << mark));
                due.is("by one " + mark, x.never(0), 0);
            }
        }
    }

    private static void series() {
        due.promise(27);
        bounds.on(Bounds::bare);
        // All but IT are HAD each time, and IT is 0 and 1 by turns.
        int[] times = {12, 6, 9};
        for (int sheet = 0; sheet < 3; sheet++) {
            int s = sheet;
            bounds.gives("series: sheet " + sheet, x -> x.series(s, 0, 1), times[sheet]);
        }
        bounds.range("series: t", 0, 9, (x, v) -> x.series(2, v, 0), v -> 0);
        bounds.range("series: what", 0, 1, (x, v) -> x.series(0, 9, v), v -> v == 0 ? 1 : 12);
        bounds.refuses("missing", x -> x.series(3, 0, 0), Due.NONE);
        bounds.outside("BEYOND ahead of NONE: sheet", 0, 3, (x, v) -> x.series(v, 0, 0));
        bounds.outside("BEYOND ahead of NONE: t", 0, 9, (x, v) -> x.series(3, v, 0));
        bounds.outside("BEYOND ahead of NONE: what", 0, 1, (x, v) -> x.series(3, 0, v));
        for (int n : new int[] {0, 1, 2, 39, 40}) {
            HomeCalls x = stuck(2);
            x.sheet(3, 8, n);
            due.is("how many times, of " + n, x.series(3, 0, 1), n == 0 ? 0 : n + 1);
            due.is("IT, of " + n, x.series(3, 0, 0), n == 0 ? -1 : n % 2 == 1 ? 0 : 1);
        }
        HomeCalls x = stuck(3);
        for (int c = 0; c < 3; c++) {
            x.change(c, 1, 999);
        }
        x.sheet(3, 8, 40);
        due.is("HAD of 999 is held, but they are HAD", x.series(3, 0, 1), 3 + 2 * 39);
    }

    /** "Numbers are their lowest three bits, less 6, if these are 6 or more": 0 to 5, 6 and 7, then 8 and below 0. */
    private static void numbersOfRow() {
        due.promise(27);
        for (int bits : new int[] {8, 16, 32}) {
            for (int number : new int[] {0, 1, 4, 5, 6, 7, 8, 9, 13, 14, 15, 16, 127, 128, 254, 255, 256, -1, -2, -3, -8, -9,
                65534, 65535, 65536, Integer.MAX_VALUE, Integer.MIN_VALUE}) {
                int low = number & 7;
                int mark = low == 6 ? 0 : low == 7 ? 1 : low;
                HomeCalls x = stuck(7);
                for (int c = 0; c < 7; c++) {
                    x.change(c, 0, c);
                }
                for (int b = 0; b < 6; b++) {
                    x.thing(b, 1 << b);
                }
                Due.sheet(x, 0, bits, number);
                due.is(number + " of " + bits + " bits", x.series(0, 0, 0), mark == 0 ? 1 : 0);
                for (int b = 0; b < 6; b++) {
                    x.shift(b, 0, 11);
                }
                x.thing(0, 1 << mark);
                for (int c = 0; c < 7; c++) {
                    x.change(c, 0, 0);
                }
                due.is(number + " is mark " + mark, x.series(0, 0, 1), 0);
                x.shift(6, 1, 63 - (1 << mark));
                due.is(number + " is no other", x.series(0, 0, 1), 7);
            }
        }
    }

    /** "All this is only thought, CALLS beyond 9999, too." */
    private static void rowBeyondLastCall() {
        due.promise(27);
        for (int calls = 9997; calls <= 9999; calls++) {
            for (int n : new int[] {1, 2, 3, 4, 40}) {
                HomeCalls x = new HomeCalls();
                Bounds.played(x, calls);
                brokerRuns(x);
                x.sheet(0, 8, n);
                // What they do hangs on whether 2 divides CALLS, not on how many there are.
                HomeCalls y = new HomeCalls();
                Bounds.played(y, calls % 2);
                brokerRuns(y);
                int times = 0;
                for (int i = 0; i < n; i++) {
                    times += Integer.bitCount(y.call(0, 1));
                }
                due.is(n + " behind " + calls + ": who is IT", x.series(0, 1, 0), y.count(3));
                due.is(n + " behind " + calls + ": how many times", x.series(0, 1, 1), times);
                due.is("CALLS stay", x.count(2), calls);
                due.is("AT stays", x.ofChild(0, 2), 0);
            }
        }
    }

    private static void brokerRuns(HomeCalls x) {
        x.thing(2, 1);
        x.child(30, 0);
        x.child(40, 9);
        x.it(1);
    }

    /** "A fraction in lowest terms (0 is 0 by 1; IT is never)." */
    private static void odds() {
        due.promise(28);
        bounds.on(Bounds::bare);
        bounds.range("odds: child", 0, 3, (x, v) -> x.odds(v, 0, 1), v -> 1);
        bounds.range("odds: t", 0, 9, (x, v) -> x.odds(3, v, 0), v -> 0);
        bounds.range("odds: part", 0, 1, (x, v) -> x.odds(3, 9, v), v -> v);
        int[][] fractions = {{0, 1}, {1, 6}, {1, 3}, {1, 2}, {2, 3}, {5, 6}, {1, 1}};
        for (int marks = 0; marks < 64; marks++) {
            HomeCalls x = stuck(7);
            x.thing(0, marks);
            int[] fraction = fractions[Integer.bitCount(marks)];
            due.is("above, MARKS " + marks, x.odds(6, 9, 0), fraction[0]);
            due.is("below, MARKS " + marks, x.odds(6, 9, 1), fraction[1]);
            x.it(6);
            due.is("IT, above", x.odds(6, 9, 0), 0);
            due.is("IT, below", x.odds(6, 9, 1), 1);
        }
    }
}
