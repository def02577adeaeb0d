/** The bounds that Terms 3 and 4 and promises 29 to 36 name: numbers that go round, VOICES, THE TRACE, SHEETS. */
public final class SheetsBoundsTest {
    private static final int MIN = Integer.MIN_VALUE;
    private static final int MAX = Integer.MAX_VALUE;
    private static final Due due = new Due();
    private static final Bounds bounds = new Bounds(due);

    public static void main(String[] args) {
        seed();
        voice();
        voiceWraps();
        trace();
        sheet();
        sheetBits();
        sheetMissing();
        putWhere();
        putLowestBits();
        moveWhich();
        moveHowMany();
        moveOrder();
        moveAsTheyWere();
        placesWhich();
        placesUpTo();
        judgeWhich();
        judgeHowMany();
        due.end();
    }

    /** "(Any number)", also those that look like ERRORS. */
    private static void seed() {
        due.promise(29);
        int[] numbers = {MIN, -1000000006, -1000000005, -1000000001, -1000000000, -1, 0, 1, MAX};
        for (int v : numbers) {
            bounds.on(Bounds::rich);
            bounds.gives("seed, then count(9), " + v, x -> x.seed(v) == 0 ? 0 : x.count(9), v);
            bounds.on(x -> x.seed(v));
            bounds.only("seed(" + v + ") again", x -> x.seed(v), v);
            bounds.only("count(9) of " + v, x -> x.count(9), v);
        }
    }

    private static void voice() {
        due.promise(30);
        bounds.on(Bounds::rich);
        bounds.range("voice: child", 0, 3, (x, v) -> x.voice(v, 0, 1), v -> new int[] {3, 2, 9, 4}[v]);
        // A STUCK with m 0 as CHILD 2: 10 + 2 by 3; twice that; 10; (72 ^ 10) less 12.
        int[] stuck = {36, 72, 10, 54};
        bounds.range("voice: act", 0, 3, (x, v) -> x.voice(2, v, 10), v -> stuck[v]);
        bounds.refuses("both beyond, told once", x -> x.voice(4, 4, 0), Due.BEYOND);
        bounds.on(x -> Bounds.children(x, 7));
        bounds.range("voice: of 7", 0, 6, (x, v) -> x.voice(v, 0, 0), v -> v == 1 || v == 4 ? 3 * v : v);
    }

    /** "A number x (ints that go round)". */
    private static void voiceWraps() {
        due.promise(30);
        int[] numbers = {MIN, MIN + 1, MIN + 9, -1000000001, -1, 0, 1, MAX / 6, MAX / 3, MAX / 2, MAX / 2 + 1, MAX - 6, MAX - 1, MAX};
        for (int kind = 0; kind < 7; kind++) {
            for (int m = 0; m < 10; m += 9) {
                HomeCalls x = new HomeCalls();
                Bounds.children(x, 6);
                x.child(10 * kind + m, 0);
                for (int number : numbers) {
                    for (int act = 0; act < 4; act++) {
                        Voice.Child voice = Voice.of(kind, 6, m);
                        due.is("voice(6, " + act + ", " + number + ") of " + kind, x.voice(6, act, number), voice.says(act, number));
                    }
                }
                for (int k = 1; k <= 5; k++) {
                    due.is("none is an ERROR", x.told(k), 0);
                }
            }
        }
        bounds.on(x -> x.child(0, 0));
        for (int error : new int[] {Due.BEYOND, Due.NONE, Due.STATE, Due.FULL, Due.KIND}) {
            bounds.gives("looks like an ERROR", x -> x.voice(0, 0, error), error);
        }
    }

    /** "NONE: there is none such", from the first of THE TRACE to its last, for each KIND and act. */
    private static void trace() {
        due.promise(31);
        bounds.on(Bounds::rich);
        int[] clerk = {71, 11, 10, 13, 11, 10, 70, 40, 12};
        for (int i = 0; i < clerk.length; i++) {
            int number = i;
            bounds.only("trace(" + i + ")", x -> x.trace(number), clerk[i]);
        }
        for (int i : new int[] {MIN, -1, clerk.length, clerk.length + 1, 39, 40, 41, MAX}) {
            bounds.refuses("trace(" + i + ")", x -> x.trace(i), Due.NONE);
        }
        bounds.on(x -> x.child(0, 0));
        bounds.refuses("no VOICE yet", x -> x.trace(0), Due.NONE);
        for (int kind = 0; kind < 7; kind++) {
            for (int act = 0; act < 4; act++) {
                HomeCalls x = new HomeCalls();
                x.child(10 * kind, 0);
                x.voice(0, 3, 0);
                x.voice(0, act, 0);
                Voice.Child voice = Voice.of(kind, 0, 0);
                voice.says(act, 0);
                int many = voice.trace.size();
                due.is("BODIES of the latest alone", x.count(8), many);
                due.is("the first", x.trace(0), voice.trace.get(0));
                due.is("the last", x.trace(many - 1), voice.trace.get(many - 1));
                due.is("behind the last", x.trace(many), Due.NONE);
                due.is("before the first", x.trace(-1), Due.NONE);
                due.is("told(2)", x.told(2), 2);
            }
        }
    }

    /** "At most 40 numbers"; "BEYOND. STATE: n is below 0 (ahead of BEYOND of n)". */
    private static void sheet() {
        due.promise(32);
        bounds.on(Bounds::rich);
        bounds.range("sheet: sheet", 0, 3, (x, v) -> x.sheet(v, 8, 3), v -> 1);
        for (int bits : new int[] {8, 16, 32}) {
            for (int sheet = 0; sheet < 4; sheet += 3) {
                int s = sheet;
                for (int n : new int[] {0, 1, 39, 40}) {
                    bounds.gives("sheet of " + n, x -> x.sheet(s, bits, n), 1);
                    bounds.gives("the last number of " + n, x -> x.sheet(s, bits, n) == 1 ? x.move(s, n, s, n, 0) : 1, 0);
                }
                for (int n : new int[] {41, 42, MAX}) {
                    bounds.refuses("sheet of " + n, x -> x.sheet(s, bits, n), Due.BEYOND);
                }
                for (int n : new int[] {-1, -2, MIN}) {
                    bounds.refuses("sheet of " + n, x -> x.sheet(s, bits, n), Due.STATE);
                    bounds.outside("BEYOND ahead of STATE: sheet", 0, 3, (x, v) -> x.sheet(v, bits, n));
                }
            }
        }
        HomeCalls x = new HomeCalls();
        for (int n : new int[] {40, 39, 1, 0}) {
            x.sheet(1, 16, n);
            due.is("behind the last of " + n, x.put(1, n, 0), Due.BEYOND);
            due.is("the last of " + n, x.put(1, n - 1, 0), n == 0 ? Due.BEYOND : 1);
        }
        x.sheet(1, 16, 40);
        due.is("of 40 again", x.put(1, 39, 0), 1);
        allZero();
    }

    /** "All 0", whatever stood there. */
    private static void allZero() {
        HomeCalls x = new HomeCalls();
        Bounds.children(x, 7);
        x.sheet(2, 32, 40);
        for (int i = 0; i < 40; i++) {
            x.put(2, i, 5);
        }
        x.sheet(2, 8, 40);
        for (int from = 0; from < 40; from += 5) {
            x.move(2, from, 2, 0, 5);
            due.is("places(2)", x.places(2), 7);
            for (int c = 0; c < 5; c++) {
                due.is("number " + (from + c), x.ofChild(c, 2), 0);
            }
        }
    }

    private static void sheetBits() {
        due.promise(32);
        bounds.on(Bounds::rich);
        for (int bits : new int[] {MIN, -32, -8, -1, 1, 4, 7, 9, 12, 15, 17, 24, 31, 33, 64, 264, MAX}) {
            bounds.refuses("sheet of " + bits + " bits", x -> x.sheet(0, bits, 3), Due.BEYOND);
            bounds.refuses("BEYOND ahead of STATE: " + bits + " bits", x -> x.sheet(0, bits, -1), Due.BEYOND);
            bounds.refuses("no such bits, though n doesn't matter: " + bits, x -> x.sheet(3, bits, 41), Due.BEYOND);
        }
        for (int bits : new int[] {8, 16, 32}) {
            bounds.gives("sheet of " + bits + " bits", x -> x.sheet(0, bits, 3), 1);
        }
    }

    /** "0: it is missing, n doesn't matter". */
    private static void sheetMissing() {
        due.promise(32);
        bounds.on(Bounds::rich);
        for (int n : new int[] {MIN, -1, 0, 1, 40, 41, MAX}) {
            bounds.gives("missing, n " + n, x -> x.sheet(0, 0, n), 1);
            bounds.only("one that is missing, n " + n, x -> x.sheet(3, 0, n), 1);
            bounds.outside("no such SHEET, n " + n, 0, 3, (x, v) -> x.sheet(v, 0, n));
            bounds.on(x -> {
                Bounds.rich(x);
                x.sheet(0, 0, n);
            });
            bounds.refuses("it is missing, n " + n, x -> x.put(0, 0, 5), Due.NONE);
            bounds.gives("the others aren't, n " + n, x -> x.put(1, 0, 5), 1);
            bounds.on(Bounds::rich);
        }
        HomeCalls x = new HomeCalls();
        x.sheet(0, 8, 40);
        x.sheet(0, 0, 40);
        due.is("it is missing", x.put(0, 0, 0), Due.NONE);
        x.sheet(0, 8, 0);
        due.is("of no numbers, but not missing", x.put(0, 0, 0), Due.BEYOND);
    }

    /** "BEYOND: no such SHEET. NONE: it is missing. BEYOND: no such number." */
    private static void putWhere() {
        due.promise(33);
        bounds.on(Bounds::rich);
        for (int sheet = 0; sheet < 3; sheet++) {
            int s = sheet;
            bounds.range("put: number of " + sheet, 0, new int[] {4, 2, 3}[sheet] - 1, (x, v) -> x.put(s, v, 5), v -> 1);
        }
        bounds.outside("put: sheet", 0, 3, (x, v) -> x.put(v, 0, 5));
        bounds.outside("put: neither such a SHEET nor number", 0, 3, (x, v) -> x.put(v, 99, 5));
        for (int i : new int[] {MIN, -1, 0, 1, 40, MAX}) {
            bounds.refuses("put: missing, number " + i, x -> x.put(3, i, 5), Due.NONE);
        }
        bounds.on(x -> x.sheet(3, 32, 0));
        bounds.refuses("put: of no numbers", x -> x.put(3, 0, 5), Due.BEYOND);
        bounds.on(x -> x.sheet(3, 32, 40));
        bounds.range("put: of 40", 0, 39, (x, v) -> x.put(3, v, MIN), v -> 1);
    }

    /** "Becomes v (its lowest bits)": around what 8, 16 and 32 bits hold. */
    private static void putLowestBits() {
        due.promise(33);
        int[][] rows = {
            {8, 255 + 1, 0}, {8, 255 + 2, 1}, {8, 512 + 11, 11}, {8, -256, 0}, {8, -245, 11}, {8, 65536 + 3, 3}, {8, MIN, 0},
            {8, MIN + 7, 7}, {8, 0x7fffff0b, 11}, {16, 65535 + 1, 0}, {16, 65535 + 2, 1}, {16, 131072 + 11, 11}, {16, -65536, 0},
            {16, -65525, 11}, {16, MIN, 0}, {16, 0x7fff000b, 11}, {32, 0, 0}, {32, 11, 11}, {8, 11, 11}, {16, 11, 11},
        };
        for (int[] row : rows) {
            HomeCalls x = new HomeCalls();
            x.child(0, 5);
            Due.sheet(x, 0, row[0], row[1]);
            due.is(row[1] + " of " + row[0] + " bits is a CELL", x.places(0), 1);
            due.is(row[1] + " of " + row[0] + " bits", x.ofChild(0, 2), row[2]);
        }
        int[][] none = {{8, 12}, {8, 127}, {8, 128}, {8, 255}, {8, -1}, {8, 256 + 12}, {16, 12}, {16, 255}, {16, 256}, {16, 32767},
            {16, 32768}, {16, 65535}, {16, -1}, {32, 12}, {32, 256}, {32, 65536}, {32, -1}, {32, MIN}, {32, MAX}, {32, MIN + 5}};
        for (int[] row : none) {
            HomeCalls x = new HomeCalls();
            x.child(0, 5);
            Due.sheet(x, 0, row[0], row[1]);
            due.is(row[1] + " of " + row[0] + " bits is no CELL", x.places(0), 0);
            due.is("AT stays", x.ofChild(0, 2), 5);
        }
        HomeCalls x = new HomeCalls();
        Bounds.children(x, 3);
        Due.sheet(x, 0, 8, 1, 2, 3);
        x.put(0, 1, 256 + 9);
        x.places(0);
        due.is("beside it all stays", x.ofChild(0, 2) * 1000 + x.ofChild(1, 2) * 10 + x.ofChild(2, 2), 1093);
    }

    /** "BEYOND: no such SHEET. NONE: one is missing. KIND: they are of unlike bits." */
    private static void moveWhich() {
        due.promise(34);
        bounds.on(Bounds::rich);
        bounds.outside("move: sheet", 0, 3, (x, v) -> x.move(v, 0, 0, 0, 1));
        bounds.outside("move: other", 0, 3, (x, v) -> x.move(0, 0, v, 0, 1));
        bounds.outside("BEYOND ahead of NONE: sheet", 0, 3, (x, v) -> x.move(v, 0, 3, 0, 1));
        bounds.outside("BEYOND ahead of NONE: other", 0, 3, (x, v) -> x.move(3, 0, v, 0, 1));
        int[][] missing = {{3, 0}, {0, 3}, {3, 3}, {2, 3}, {3, 2}};
        for (int[] m : missing) {
            bounds.refuses("missing", x -> x.move(m[0], 0, m[1], 0, 0), Due.NONE);
        }
        int[][] unlike = {{0, 2}, {2, 0}, {1, 2}, {2, 1}};
        for (int[] u : unlike) {
            bounds.refuses("unlike bits", x -> x.move(u[0], 0, u[1], 0, 1), Due.KIND);
            bounds.refuses("unlike bits, none of them", x -> x.move(u[0], 0, u[1], 0, 0), Due.KIND);
        }
        int[] three = {8, 16, 32};
        for (int from : three) {
            for (int to : three) {
                HomeCalls x = new HomeCalls();
                x.sheet(0, from, 2);
                x.sheet(1, to, 2);
                due.is(from + " to " + to + " bits", x.move(0, 0, 1, 0, 2), from == to ? 2 : Due.KIND);
            }
        }
    }

    /** "BEYOND: n, i, or j is below 0, or they don't stand there": SHEET 0 has 4, SHEET 1 has 2. */
    private static void moveHowMany() {
        due.promise(34);
        bounds.on(Bounds::rich);
        bounds.range("move: n of 0", 0, 4, (x, v) -> x.move(0, 0, 0, 0, v), v -> v);
        bounds.range("move: n to 1", 0, 2, (x, v) -> x.move(0, 0, 1, 0, v), v -> v);
        bounds.range("move: n from 1", 0, 2, (x, v) -> x.move(1, 0, 0, 0, v), v -> v);
        bounds.range("move: i, 1 of 0", 0, 3, (x, v) -> x.move(0, v, 1, 0, 1), v -> 1);
        bounds.range("move: i, 2 of 0", 0, 2, (x, v) -> x.move(0, v, 1, 0, 2), v -> 2);
        bounds.range("move: i, none of 0", 0, 4, (x, v) -> x.move(0, v, 1, 0, 0), v -> 0);
        bounds.range("move: i, all of 0", 0, 0, (x, v) -> x.move(0, v, 0, 0, 4), v -> 4);
        bounds.range("move: j, 1 to 1", 0, 1, (x, v) -> x.move(0, 0, 1, v, 1), v -> 1);
        bounds.range("move: j, 2 to 0", 0, 2, (x, v) -> x.move(1, 0, 0, v, 2), v -> 2);
        bounds.range("move: j, none to 1", 0, 2, (x, v) -> x.move(0, 0, 1, v, 0), v -> 0);
        int[][] wraps = {{1, 0, MAX}, {MAX, 0, 1}, {0, MAX, 1}, {MAX, MAX, MAX}, {MIN, 0, MIN}, {0, MIN, MIN}, {MAX, 0, 2}, {2, 2, MAX - 1},
            {MIN, MIN, MAX}, {-1, -1, 1}, {-1, 0, 2}, {0, -1, 2}, {1, 1, -1}, {4, 4, -1}, {-1, 0, 0}, {0, -1, 0}, {5, 0, 0}, {0, 5, 0}};
        for (int[] w : wraps) {
            bounds.refuses("move(0, " + w[0] + ", 0, " + w[1] + ", " + w[2] + ")", x -> x.move(0, w[0], 0, w[1], w[2]), Due.BEYOND);
        }
        bounds.on(x -> {
            x.sheet(0, 16, 0);
            x.sheet(1, 16, 40);
        });
        bounds.only("none of none", x -> x.move(0, 0, 0, 0, 0), 0);
        bounds.only("none behind the last", x -> x.move(1, 40, 0, 0, 0), 0);
        bounds.refuses("one of none", x -> x.move(0, 0, 1, 0, 1), Due.BEYOND);
        bounds.refuses("one to none", x -> x.move(1, 0, 0, 0, 1), Due.BEYOND);
        bounds.range("move: of 40", 0, 40, (x, v) -> x.move(1, 0, 1, 0, v), v -> v);
        bounds.range("move: i of 40", 0, 39, (x, v) -> x.move(1, v, 1, 0, 1), v -> 1);
        bounds.range("move: j of 40", 0, 39, (x, v) -> x.move(1, 0, 1, v, 1), v -> 1);
    }

    private static void moveOrder() {
        due.promise(34);
        bounds.on(Bounds::rich);
        int[][] places = {{-1, 0, 1}, {0, -1, 1}, {0, 0, -1}, {5, 0, 0}, {0, 5, 0}, {0, 0, 99}};
        for (int[] p : places) {
            bounds.refuses("no such SHEET", x -> x.move(4, p[0], 0, p[1], p[2]), Due.BEYOND);
            bounds.refuses("NONE ahead of BEYOND", x -> x.move(3, p[0], 0, p[1], p[2]), Due.NONE);
            bounds.refuses("NONE ahead of BEYOND", x -> x.move(2, p[0], 3, p[1], p[2]), Due.NONE);
            bounds.refuses("KIND ahead of BEYOND", x -> x.move(0, p[0], 2, p[1], p[2]), Due.KIND);
            bounds.refuses("BEYOND", x -> x.move(0, p[0], 1, p[1], p[2]), Due.BEYOND);
        }
    }

    /** "As they all were": within one SHEET, each way over itself. */
    private static void moveAsTheyWere() {
        due.promise(34);
        for (int bits : new int[] {8, 16, 32}) {
            for (int i = 0; i <= 7; i++) {
                for (int j = 0; j <= 7; j++) {
                    for (int n = 0; n <= 7 - Math.max(i, j); n++) {
                        HomeCalls x = new HomeCalls();
                        Bounds.children(x, 7);
                        Due.sheet(x, 0, bits, 1, 2, 3, 4, 5, 6, 7);
                        due.is("move(0, " + i + ", 0, " + j + ", " + n + ")", x.move(0, i, 0, j, n), n);
                        x.places(0);
                        for (int c = 0; c < 7; c++) {
                            due.is("number " + c, x.ofChild(c, 2), c >= j && c < j + n ? c - j + i + 1 : c + 1);
                        }
                    }
                }
            }
        }
    }

    private static void placesWhich() {
        due.promise(35);
        bounds.on(Bounds::rich);
        bounds.outside("places: sheet", 0, 3, (x, v) -> x.places(v));
        bounds.refuses("missing", x -> x.places(3), Due.NONE);
        int[] many = {4, 2, 3};
        for (int sheet = 0; sheet < 3; sheet++) {
            int s = sheet;
            bounds.gives("places(" + sheet + ")", x -> x.places(s), many[sheet]);
        }
        bounds.on(x -> x.sheet(0, 8, 40));
        bounds.only("no CHILD", x -> x.places(0), 0);
        bounds.on(x -> {
            Bounds.rich(x);
            x.sheet(1, 32, 0);
        });
        bounds.only("no numbers", x -> x.places(1), 0);
    }

    /** "How many, up to the first that is not 0 to 11 (no ERROR then), or for which there is no CHILD." */
    private static void placesUpTo() {
        due.promise(35);
        for (int bits : new int[] {8, 16, 32}) {
            for (int place = 0; place < 7; place++) {
                for (int number : new int[] {MIN, -1, 0, 1, 10, 11, 12, 13, 100, 127, 128, 255}) {
                    HomeCalls x = new HomeCalls();
                    Bounds.children(x, 7);
                    x.sheet(0, bits, 7);
                    for (int i = 0; i < 7; i++) {
                        x.put(0, i, 11 - i);
                    }
                    x.put(0, place, number);
                    int low = bits == 8 && number == MIN || bits == 16 && number == MIN ? 0 : number;
                    boolean cell = low >= 0 && low <= 11;
                    due.is("number " + place + " is " + number, x.places(0), cell ? 7 : place);
                    for (int c = 0; c < 7; c++) {
                        int wanted = c == place && cell ? low : c < place || cell ? 11 - c : c;
                        due.is("CHILD " + c, x.ofChild(c, 2), wanted);
                    }
                    for (int k = 1; k <= 5; k++) {
                        due.is("no ERROR", x.told(k), 0);
                    }
                }
            }
        }
        for (int children = 0; children <= 7; children++) {
            for (int n : new int[] {0, 1, 6, 7, 8, 39, 40}) {
                HomeCalls x = new HomeCalls();
                Bounds.children(x, children);
                x.sheet(0, 16, n);
                due.is(n + " for " + children, x.places(0), Math.min(n, children));
                for (int c = 0; c < children; c++) {
                    due.is("CHILD " + c, x.ofChild(c, 2), c < n ? 0 : c);
                }
            }
        }
    }

    private static void judgeWhich() {
        due.promise(36);
        bounds.on(Bounds::rich);
        bounds.outside("judge: sheet", 0, 3, (x, v) -> x.judge(v));
        bounds.refuses("missing", x -> x.judge(3), Due.NONE);
        bounds.only("the first isn't so", x -> x.judge(0), 0);
        bounds.on(x -> {
            Bounds.rich(x);
            Due.sheet(x, 3, 8, 5, 6, 7, 8);
        });
        bounds.only("all are", x -> x.judge(3), -1);
    }

    /** "The first that isn't so (one that lacks, or is too many, too); -1: all are." */
    private static void judgeHowMany() {
        due.promise(36);
        int[] safe = {0, 1, 998, 999, 127, 12, 5};
        for (int bits : new int[] {16, 32}) {
            for (int children = 0; children <= 7; children++) {
                HomeCalls x = new HomeCalls();
                Bounds.children(x, children);
                for (int c = 0; c < children; c++) {
                    x.change(c, 2, safe[c]);
                    x.change(c, 1, 500);
                }
                for (int n = 0; n <= 8; n++) {
                    x.sheet(0, bits, n);
                    for (int i = 0; i < Math.min(n, 7); i++) {
                        x.put(0, i, safe[i]);
                    }
                    due.is(n + " for " + children, x.judge(0), n == children ? -1 : Math.min(n, children));
                    for (int i = 0; i < Math.min(n, children); i++) {
                        x.put(0, i, safe[i] + 1);
                        due.is("number " + i + " is 1 more", x.judge(0), i);
                        x.put(0, i, safe[i] - 1);
                        due.is("number " + i + " is 1 less", x.judge(0), i);
                        x.put(0, i, safe[i]);
                    }
                }
            }
        }
        HomeCalls x = new HomeCalls();
        x.child(0, 0);
        x.sheet(0, 8, 40);
        due.is("40 for one: the second is too many", x.judge(0), 1);
        x.put(0, 0, 1);
        due.is("the first isn't so, ahead of it", x.judge(0), 0);
    }
}
