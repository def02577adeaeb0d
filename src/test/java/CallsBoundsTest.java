/** The bounds that Terms 1 and promises 14 and 15 name: how far one sees and runs, what is held, the last CALLS. */
public final class CallsBoundsTest {
    private static final Due due = new Due();
    private static final Bounds bounds = new Bounds(due);

    public static void main(String[] args) {
        call();
        lastCall();
        seen();
        runs();
        runsIndeed();
        ways();
        nearest();
        knows();
        touching();
        holdsNames();
        held();
        whoIsIt();
        loose();
        lastGames();
        draws();
        due.end();
    }

    private static void call() {
        due.promise(14);
        bounds.on(Bounds::bare);
        bounds.range("call: mark", 0, 5, (x, v) -> x.call(v, 0), v -> 13);
        bounds.range("call: t", 0, 9, (x, v) -> x.call(0, v), v -> 13);
        bounds.on(Bounds::rich);
        bounds.outside("call: mark", 0, 5, (x, v) -> x.call(v, 9));
        bounds.outside("call: t", 0, 9, (x, v) -> x.call(5, v));
        bounds.on(x -> { });
        bounds.range("call, without CHILDREN", 0, 5, (x, v) -> x.call(v, 9), v -> 0);
    }

    /** "CALLS so far (0 to 9999)"; "STATE: CALLS are 9999". */
    private static void lastCall() {
        due.promise(14);
        bounds.on(x -> street(x, 9997));
        bounds.gives("behind 9997", x -> x.call(0, 1), 2);
        bounds.on(x -> street(x, 9998));
        bounds.gives("behind 9998", x -> x.call(0, 1), 2);
        bounds.gives("behind 9998, then CALLS", x -> x.call(0, 1) == 2 ? x.count(2) : -1, 9999);
        bounds.on(x -> street(x, 9999));
        bounds.refuses("behind 9999", x -> x.call(0, 0), Due.STATE);
        bounds.refuses("behind 9999", x -> x.call(5, 9), Due.STATE);
        bounds.outside("BEYOND ahead of STATE: mark", 0, 5, (x, v) -> x.call(v, 0));
        bounds.outside("BEYOND ahead of STATE: t", 0, 9, (x, v) -> x.call(0, v));
    }

    private static void street(HomeCalls x, int calls) {
        Bounds.played(x, calls);
        x.thing(3, 1);
        x.child(0, 2);
        x.child(40, 7);
    }

    /** "If it isn't more CELLS off than FAR", for each KIND that runs, each m, up and down from each CELL. */
    private static void seen() {
        due.promise(14);
        int[] kinds = {0, 1, 2, 3, 5, 6};
        for (int kind : kinds) {
            for (int m = 0; m < 10; m++) {
                int far = new int[] {6, 5, 6 - m % 3, 2, 5, 7 - m % 3, 2}[kind];
                HomeCalls x = new HomeCalls();
                x.child(10 * kind + m, 0);
                x.thing(0, 1);
                due.is("FAR", x.ofChild(0, 6), far);
                for (int off = 0; off < 12; off++) {
                    int at = (7 * off + m) % 12;
                    int there = (at + off) % 12;
                    x.change(0, 0, at);
                    x.shift(0, 0, there);
                    int nearer = Math.min(off, 12 - off);
                    due.is("KIND " + kind + ", m " + m + ", " + nearer + " off", x.runsTo(0, 0, 9), nearer <= far ? there : at);
                    due.is("HAD", x.hadBy(0, 9), nearer <= far ? 0 : 1);
                }
            }
        }
    }

    /** "PACE times t CELLS, no further than there", from each CELL, over 11 and 0, too. */
    private static void runs() {
        due.promise(14);
        int[] kms = {0, 20, 50, 11, 40};
        int[] paces = {1, 2, 3, 2, 0};
        for (int k = 0; k < kms.length; k++) {
            for (int off = -5; off <= 6; off++) {
                HomeCalls x = new HomeCalls();
                x.child(kms[k], 0);
                x.thing(0, 32);
                boolean seen = k != 3 || off < 6;
                for (int at = 0; at < 12; at++) {
                    x.change(0, 0, at);
                    x.shift(0, 0, (at + off + 12) % 12);
                    for (int t = 0; t < 10; t++) {
                        int way = seen ? Math.min(Math.abs(off), paces[k] * t) : 0;
                        int end = (at + (off < 0 ? -way : way) + 12) % 12;
                        due.is("PACE " + paces[k] + ", " + t + " STEPS, " + off + " from " + at, x.runsTo(0, 5, t), end);
                    }
                    x.it(0);
                    due.is("IT stays", x.runsTo(0, 5, 9), at);
                    x.it(-1);
                }
            }
        }
    }

    /** A CALL has them where they ran to; with 0 STEPS, and PACE 0, and as IT, they stay. */
    private static void runsIndeed() {
        due.promise(14);
        for (int t = 0; t < 10; t++) {
            HomeCalls x = new HomeCalls();
            x.thing(9, 1);
            for (int c = 0; c < 7; c++) {
                x.child(10 * c, 3 + c);
            }
            x.it(2);
            int[] ends = {3 + Math.min(t, 6), 4 + Math.min(t, 5), 5, 6, 7, 8 + Math.min(t, 1), 9};
            x.call(0, t);
            for (int c = 0; c < 7; c++) {
                due.is("CHILD " + c + " behind " + t + " STEPS", x.ofChild(c, 2), ends[c]);
            }
        }
    }

    /** "The shorter way (of two alike up, from CELL 0 to 1)": 5, 6 and 7 up. */
    private static void ways() {
        due.promise(14);
        HomeCalls x = new HomeCalls();
        x.child(50, 0);
        x.child(50, 0);
        x.it(1);
        x.thing(0, 1);
        for (int at = 0; at < 12; at++) {
            x.change(0, 0, at);
            for (int up = 5; up <= 7; up++) {
                x.shift(0, 0, (at + up) % 12);
                due.is(up + " up from " + at, x.runsTo(0, 0, 1), (at + (up <= 6 ? 2 : 10)) % 12);
            }
        }
    }

    /** "The fewest CELLS off, of several the least THING", with one nearer by one, as near, and further by one. */
    private static void nearest() {
        due.promise(14);
        for (int up = 1; up <= 4; up++) {
            for (int down = up - 1; down <= up + 1; down++) {
                HomeCalls x = new HomeCalls();
                x.thing(up, 1);
                x.thing((12 - down) % 12, 1);
                x.child(0, 0);
                due.is(up + " up is THING 0, " + down + " down is 1", x.runsTo(0, 0, 1), down == 0 ? 0 : up <= down ? 1 : 11);
                HomeCalls y = new HomeCalls();
                y.thing((12 - down) % 12, 1);
                y.thing(up, 1);
                y.child(0, 0);
                due.is(up + " up is THING 1, " + down + " down is 0", y.runsTo(0, 0, 1), down == 0 ? 0 : up < down ? 1 : 11);
            }
        }
        HomeCalls x = new HomeCalls();
        for (int i = 0; i < 7; i++) {
            x.thing(1, 0);
        }
        x.thing(10, 1);
        x.child(0, 0);
        due.is("the eighth alone has the mark", x.runsTo(0, 0, 1), 11);
        x.shift(0, 1, 62);
        due.is("all marks but this", x.runsTo(0, 0, 1), 11);
        x.shift(0, 1, 1);
        due.is("it is nearer", x.runsTo(0, 0, 1), 1);
    }

    /** "And the TEXT gives other than 0": by d, b and m, at what they can be least and most. */
    private static void knows() {
        due.promise(14);
        for (int off = 0; off <= 6; off++) {
            for (int d = off - 1; d <= off + 1; d++) {
                HomeCalls x = new HomeCalls();
                x.thing(off, 1);
                x.child(0, 0);
                due.is("d=" + d, Due.text(x, 0, "d+1=" + (d + 1)), 1);
                due.is(off + " off, d=" + d, x.runsTo(0, 0, 9), d == off ? off : 0);
            }
        }
        for (int mark = 0; mark < 6; mark++) {
            for (int m = 0; m < 10; m++) {
                HomeCalls x = new HomeCalls();
                x.thing(3, 63);
                x.child(m, 0);
                Due.text(x, 0, "b*10+m=" + (10 * mark + m));
                for (int b = 0; b < 6; b++) {
                    due.is("b and m", x.runsTo(0, b, 9), b == mark ? 3 : 0);
                }
                x.become(0, (m + 1) % 10);
                due.is("another m", x.runsTo(0, mark, 9), 0);
            }
        }
        String[] texts = {"0-1", "0", "1", "2", "0-d", "d-2", "d-3", "d-4"};
        boolean[] known = {false, false, true, true, false, true, false, false};
        for (int i = 0; i < texts.length; i++) {
            HomeCalls x = new HomeCalls();
            x.thing(3, 1);
            x.child(0, 0);
            Due.text(x, 0, texts[i]);
            due.is(texts[i], x.runsTo(0, 0, 9), known[i] ? 3 : 0);
        }
        HomeCalls far = new HomeCalls();
        far.thing(6, 1);
        far.child(10, 0);
        Due.text(far, 0, "1");
        due.is("no TEXT makes it see further than FAR", far.runsTo(0, 0, 9), 0);
    }

    /** "If there is a THING with that mark in its CELL": beside it, and over 11 and 0, there is none. */
    private static void touching() {
        due.promise(14);
        for (int cell = 0; cell < 12; cell++) {
            for (int off = 11; off <= 13; off++) {
                HomeCalls x = new HomeCalls();
                x.thing(cell, 8);
                x.child(40, (cell + off) % 12);
                due.is("STUCK " + (off - 12) + " from " + cell, x.call(3, 9), off == 12 ? 0 : 1);
                due.is("SAFE", x.count(5), off == 12 ? 1 : 0);
                due.is("HAD", x.count(4), off == 12 ? 0 : 1);
            }
        }
        for (int mark = 0; mark < 6; mark++) {
            HomeCalls x = new HomeCalls();
            x.thing(0, 1 << mark);
            x.child(40, 0);
            for (int b = 0; b < 6; b++) {
                due.is("mark " + mark + " by a CALL of " + b, x.hadBy(b, 0), b == mark ? 0 : 1);
            }
            x.shift(0, 1, 63 - (1 << mark));
            due.is("all marks but " + mark, x.hadBy(mark, 0), 1);
        }
    }

    /** "n how many but IT are in that CELL then" (1 to 7), "x MARKS of the least such THING there" (1 to 63), b. */
    private static void holdsNames() {
        due.promise(14);
        for (int many = 1; many <= 7; many++) {
            HomeCalls x = new HomeCalls();
            x.thing(5, 1);
            for (int c = 0; c < many; c++) {
                x.child(40, 5);
            }
            int all = (1 << many) - 1;
            for (int n = many - 1; n <= many + 1; n++) {
                Due.text(x, 1, "n=" + n);
                x.it(-1);
                due.is(many + " are there, n=" + n, x.hadBy(0, 0), n == many ? 0 : all);
                x.it(many - 1);
                due.is("the last is IT, n=" + n, x.hadBy(0, 0), n == many - 1 ? 0 : all >> 1);
            }
        }
        for (int marks = 1; marks < 64; marks++) {
            HomeCalls x = new HomeCalls();
            x.thing(5, 0);
            x.thing(6, 63);
            x.thing(5, marks);
            x.thing(5, 63);
            x.child(40, 5);
            Due.text(x, 1, "x=" + marks);
            int least = Integer.numberOfTrailingZeros(marks);
            due.is("x=" + marks, x.hadBy(least, 0), 0);
            Due.text(x, 1, "x=" + (marks - 1));
            due.is("x=" + (marks - 1), x.hadBy(least, 0), 1);
            Due.text(x, 1, "b=" + least);
            due.is("b=" + least, x.hadBy(least, 0), 0);
            Due.text(x, 1, "b=" + (least + 1));
            due.is("b=" + (least + 1), x.hadBy(least, 0), 1);
        }
        String[] texts = {"0-1", "0", "1", "2", "n-1", "n-2", "n-3"};
        int[] had = {3, 3, 0, 0, 0, 3, 3};
        for (int i = 0; i < texts.length; i++) {
            HomeCalls x = new HomeCalls();
            x.thing(5, 1);
            x.child(0, 5);
            x.child(0, 6);
            Due.text(x, 1, texts[i]);
            due.is(texts[i], x.call(0, 1), had[i]);
        }
    }

    /** "SAFE (1 more; held), HAD (1 more; held)": 997, 998 and 999, by CALLS and by GAMES. */
    private static void held() {
        due.promise(14);
        for (int before = 997; before <= 999; before++) {
            HomeCalls x = new HomeCalls();
            x.thing(0, 63);
            x.child(40, 0);
            x.child(40, 1);
            for (int what = 1; what <= 2; what++) {
                x.change(0, what, before);
                x.change(1, what, before);
            }
            due.is("call", x.call(0, 0), 2);
            due.is("SAFE behind " + before, x.ofChild(0, 4), Math.min(before + 1, 999));
            due.is("HAD stays", x.ofChild(0, 3), before);
            due.is("HAD behind " + before, x.ofChild(1, 3), Math.min(before + 1, 999));
            due.is("SAFE stays", x.ofChild(1, 4), before);
            due.promise(15);
            x.it(-1);
            due.is("loose: each other time", x.loose(40), 20);
            due.is("SAFE behind 41", x.ofChild(0, 4), 999);
            due.is("HAD behind 41", x.ofChild(1, 3), 999);
            due.promise(14);
        }
        HomeCalls all = new HomeCalls();
        for (int c = 0; c < 7; c++) {
            all.child(40, 0);
            all.change(c, 1, 999);
            all.change(c, 2, 999);
        }
        due.is("all are HAD", all.call(0, 0), 127);
        due.promise(41);
        due.is("HAD of all together", all.count(4), 6993);
        due.is("SAFE of all together", all.count(5), 6993);
    }

    /** "IT becomes the least of those who were HAD by it (-1, if nobody was)." */
    private static void whoIsIt() {
        due.promise(14);
        for (int set = 0; set < 128; set++) {
            HomeCalls x = new HomeCalls();
            x.thing(0, 1);
            for (int c = 0; c < 7; c++) {
                x.child(40, set >> c & 1);
            }
            due.is("those who are HAD", x.call(0, 0), set);
            int least = set == 0 ? -1 : Integer.numberOfTrailingZeros(set);
            due.is("the least of " + set, x.count(3), least);
            due.is("IT isn't HAD again", x.call(0, 0), set == 0 ? 0 : set & ~(1 << least));
        }
        HomeCalls one = new HomeCalls();
        one.child(40, 0);
        one.it(0);
        due.is("IT alone", one.call(0, 0), 0);
        due.is("nobody", one.count(3), -1);
        due.is("IT was neither", one.count(4) + one.count(5), 0);
    }

    private static void loose() {
        due.promise(15);
        bounds.on(Bounds::bare);
        // Each GAME has 3 of 4: IT is another one each time.
        bounds.range("loose: n", 1, 40, (x, v) -> x.loose(v), v -> 3 * v);
        bounds.range("loose, then CALLS", 1, 40, (x, v) -> x.loose(v) < -1 ? Due.BEYOND : x.count(2), v -> 3 + v);
        bounds.on(Bounds::rich);
        bounds.outside("loose: n", 1, 40, (x, v) -> x.loose(v));
    }

    /** "STATE: CALLS would be above 9999." */
    private static void lastGames() {
        due.promise(15);
        int[][] rows = {{9958, 40}, {9959, 40}, {9960, 39}, {9997, 2}, {9998, 1}};
        for (int[] row : rows) {
            bounds.on(x -> Bounds.played(x, row[0]));
            bounds.gives(row[0] + " and " + row[1], x -> x.loose(row[1]), 0);
            bounds.gives(row[0] + " and " + row[1] + ", then CALLS", x -> x.loose(row[1]) + x.count(2), row[0] + row[1]);
        }
        int[][] above = {{9960, 40}, {9961, 39}, {9997, 3}, {9998, 2}, {9998, 40}, {9999, 1}, {9999, 40}};
        for (int[] row : above) {
            bounds.on(x -> street(x, row[0]));
            bounds.refuses(row[0] + " and " + row[1], x -> x.loose(row[1]), Due.STATE);
        }
        bounds.on(x -> street(x, 9999));
        bounds.outside("BEYOND ahead of STATE", 1, 40, (x, v) -> x.loose(v));
    }

    /** "An int" that wraps; "z >>> 8", of a z below 0, too; "rest by 6", "rest by 5": from 0 to 5 and from 0 to 4. */
    private static void draws() {
        due.promise(15);
        boolean[][] played = new boolean[6][5];
        for (int i = 0; i < 300; i++) {
            int z = i < 4 ? new int[] {Integer.MIN_VALUE, -1, 0, Integer.MAX_VALUE}[i] : i * 1640531527;
            HomeCalls x = new HomeCalls();
            HomeCalls y = new HomeCalls();
            for (HomeCalls each : new HomeCalls[] {x, y}) {
                for (int mark = 0; mark < 6; mark++) {
                    each.thing(2 * mark, 1 << mark);
                }
                for (int c = 0; c < 7; c++) {
                    each.child(c % 3 == 0 ? 20 : 0, c);
                }
            }
            x.seed(z);
            int first = z * 1103515245 + 12345;
            int second = first * 1103515245 + 12345;
            int mark = (first >>> 8) % 6;
            int t = (second >>> 8) % 5;
            played[mark][t] = true;
            due.is("loose(1) of " + z, x.loose(1), Integer.bitCount(y.call(mark, t)));
            due.is("z", x.count(9), second);
            for (int c = 0; c < 7; c++) {
                due.is("AT of " + c, x.ofChild(c, 2), y.ofChild(c, 2));
            }
        }
        for (int mark = 0; mark < 6; mark++) {
            for (int t = 0; t < 5; t++) {
                due.is("mark " + mark + " and " + t + " STEPS were drawn", played[mark][t] ? 1 : 0, 1);
            }
        }
    }
}
