/** Promises 29 to 31: the seed, VOICES, THE TRACE. */
public final class VoicesTest {
    private static final Due due = new Due();

    public static void main(String[] args) {
        seed();
        everyVoice();
        values();
        wrap();
        wrong();
        due.end();
    }

    private static void seed() {
        due.promise(29);
        HomeCalls x = new HomeCalls();
        due.is("seed(-1000000001)", x.seed(-1000000001), 1);
        due.is("seed(MIN)", x.seed(Integer.MIN_VALUE), -1000000001);
        due.is("seed(7)", x.seed(7), Integer.MIN_VALUE);
        due.is("count(9)", x.count(9), 7);
        due.is("no ERROR", x.told(1), 0);
    }

    /** The same BODIES with the language's own super, against every KIND, act, n, m and many x. */
    private static void everyVoice() {
        due.promise(30);
        int[] numbers = {0, 1, -1, 2, 5, -77, 1 << 30, Integer.MAX_VALUE, Integer.MIN_VALUE, 123456789};
        for (int kind = 0; kind < 7; kind++) {
            for (int n = 0; n < 7; n++) {
                HomeCalls x = new HomeCalls();
                for (int i = 0; i <= n; i++) {
                    x.child(0, 0);
                }
                x.become(n, 10 * kind + (3 * n + kind) % 10);
                for (int act = 0; act < 4; act++) {
                    int number = numbers[(kind + n + act) % numbers.length];
                    Voice.Child voice = Voice.of(kind, n, (3 * n + kind) % 10);
                    due.is("voice(" + n + ", " + act + ", " + number + ") of " + kind, x.voice(n, act, number), voice.says(act, number));
                    due.is("count(8)", x.count(8), voice.trace.size());
                    for (int i = 0; i < voice.trace.size(); i++) {
                        due.promise(31);
                        due.is("trace(" + i + ")", x.trace(i), voice.trace.get(i));
                        due.promise(30);
                    }
                }
            }
        }
    }

    private static void values() {
        due.promise(30);
        // Worked out by hand from the document, CHILD 1 with m 4 and x 10.
        int[][] answers = {{11, 22, 6, 16}, {33, 66, 6, 68}, {11, 25, 6, 31}, {11, 22, -6, -20}, {33, 66, 6, 59},
            {11, 27, 6, 29}, {11, 22, -5, 41}};
        for (int kind = 0; kind < 7; kind++) {
            HomeCalls x = new HomeCalls();
            x.child(0, 0);
            x.child(10 * kind + 4, 0);
            for (int act = 0; act < 4; act++) {
                due.is("voice(1, " + act + ", 10) of " + kind, x.voice(1, act, 10), answers[kind][act]);
            }
        }
        due.promise(31);
        HomeCalls x = new HomeCalls();
        x.child(61, 0);
        x.voice(0, 3, 0);
        int[] bodies = {71, 11, 10, 13, 11, 10, 70, 40, 12};
        due.is("count(8)", x.count(8), bodies.length);
        for (int i = 0; i < bodies.length; i++) {
            due.is("trace(" + i + ")", x.trace(i), bodies[i]);
        }
        due.is("trace(9)", x.trace(9), Due.NONE);
        due.is("trace(-1)", x.trace(-1), Due.NONE);
        due.is("trace(40)", x.trace(40), Due.NONE);
        due.is("trace(MIN)", x.trace(Integer.MIN_VALUE), Due.NONE);
        due.is("trace(MAX)", x.trace(Integer.MAX_VALUE), Due.NONE);
        due.is("told(2)", x.told(2), 5);
        x.voice(0, 0, 0);
        due.is("of the latest", x.count(8), 1);
        due.is("of the latest", x.trace(0), 10);
        due.is("of the latest", x.trace(1), Due.NONE);
    }

    private static void wrap() {
        due.promise(30);
        HomeCalls x = new HomeCalls();
        x.child(0, 0);
        x.child(30, 0);
        due.is("shouts(MAX) of 1", x.voice(1, 0, Integer.MAX_VALUE), Integer.MIN_VALUE);
        due.is("runs(1 << 30)", x.voice(0, 1, 1 << 30), Integer.MIN_VALUE);
        due.is("touches(MIN)", x.voice(1, 2, Integer.MIN_VALUE), Integer.MIN_VALUE);
        due.is("an answer that looks like an ERROR", x.voice(0, 0, -1000000001), -1000000001);
        due.is("told(1)", x.told(1), 0);
    }

    private static void wrong() {
        due.promise(30);
        HomeCalls x = new HomeCalls();
        x.child(10, 0);
        x.voice(0, 0, 1);
        int[][] wrong = {{1, 0}, {-1, 0}, {0, 4}, {0, -1}, {7, 9}};
        for (int[] w : wrong) {
            due.is("voice, wrong", x.voice(w[0], w[1], 0), Due.BEYOND);
        }
        due.is("THE TRACE stays", x.count(8), 2);
        due.is("THE TRACE stays", x.trace(0), 20);
        due.is("THE TRACE stays", x.trace(1), 10);
    }
}
