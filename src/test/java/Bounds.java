import java.util.List;
import java.util.function.Consumer;
import java.util.function.IntUnaryOperator;
import java.util.function.ToIntFunction;

/** Asks calls at their bounds, each on new objects that are made ready for it. */
final class Bounds {
    /** A call, of which one number is at its bounds. */
    interface Call {
        int ask(HomeCalls x, int v);
    }

    private final Due due;
    private Consumer<HomeCalls> ready = x -> { };

    Bounds(Due due) {
        this.due = due;
    }

    void on(Consumer<HomeCalls> newReady) {
        ready = newReady;
    }

    /** From least to most the call gives what is wanted; just beyond, and far beyond, it is refused. */
    void range(String name, int least, int most, Call call, IntUnaryOperator wanted) {
        int[] within = {least, Math.min(least + 1, most), Math.max(most - 1, least), most};
        for (int v : within) {
            gives(name + " " + v, x -> call.ask(x, v), wanted.applyAsInt(v));
        }
        outside(name, least, most, call);
    }

    void outside(String name, int least, int most, Call call) {
        for (int v : new int[] {least - 1, most + 1, Integer.MIN_VALUE, Integer.MAX_VALUE}) {
            refuses(name + " " + v, x -> call.ask(x, v), Due.BEYOND);
        }
    }

    /** It answers so, and tells no ERROR. */
    void gives(String name, ToIntFunction<HomeCalls> call, int wanted) {
        HomeCalls x = made();
        int[] before = told(x);
        due.is(name, call.applyAsInt(x), wanted);
        toldIs(name, x, before, 0);
    }

    /** It answers so, and everything is as with one who wasn't asked. */
    void only(String name, ToIntFunction<HomeCalls> call, int wanted) {
        HomeCalls x = made();
        HomeCalls other = made();
        int[] before = told(x);
        due.is(name, call.applyAsInt(x), wanted);
        toldIs(name, x, before, 0);
        alike(name, Answers.of(x), Answers.of(other));
    }

    /** Whatever it answers (no ERROR), everything is as with one who wasn't asked. */
    void thinks(String name, ToIntFunction<HomeCalls> call) {
        HomeCalls x = made();
        HomeCalls other = made();
        int[] before = told(x);
        due.is(name + ", an ERROR", call.applyAsInt(x) < -1 ? 1 : 0, 0);
        toldIs(name, x, before, 0);
        alike(name, Answers.of(x), Answers.of(other));
    }

    /** It answers the ERROR, told() counts it, and everything else is as with one who wasn't asked. */
    void refuses(String name, ToIntFunction<HomeCalls> call, int error) {
        HomeCalls x = made();
        HomeCalls other = made();
        int[] before = told(x);
        due.is(name, call.applyAsInt(x), error);
        toldIs(name, x, before, -1000000000 - error);
        alike(name, Answers.of(x), Answers.of(other));
    }

    private HomeCalls made() {
        HomeCalls x = new HomeCalls();
        ready.accept(x);
        return x;
    }

    private static int[] told(HomeCalls x) {
        int[] told = new int[6];
        for (int k = 1; k < 6; k++) {
            told[k] = x.told(k);
        }
        return told;
    }

    private void toldIs(String name, HomeCalls x, int[] before, int oneMore) {
        for (int k = 1; k < 6; k++) {
            due.is(name + ", then told(" + k + ")", x.told(k), before[k] + (k == oneMore ? 1 : 0));
        }
    }

    private void alike(String name, List<String> got, List<String> want) {
        due.is(name + ", then how many answers", got.size(), want.size());
        for (int i = 0; i < Math.min(got.size(), want.size()); i++) {
            if (!got.get(i).equals(want.get(i))) {
                due.is(name + ", then " + got.get(i) + " and not " + want.get(i), 1, 0);
                return;
            }
        }
        due.is(name + ", then all the same", 0, 0);
    }

    // ---- what objects are made ready with

    /** Something of everything: 3 THINGS, 4 CHILDREN, IT 1, both TEXTS, an IMAGE of other things, SHEETS, a TRACE, each ERROR. */
    static void rich(HomeCalls x) {
        x.thing(0, 9);
        x.child(13, 2);
        Due.text(x, 0, "d<6|m=7");
        Due.text(x, 1, "n<3");
        Due.feed(x, "n=4");
        x.tell(0);
        x.image();
        x.check();
        // Without the NAMES of USE 0 it is none, so that THE TAPE is empty and both TEXTS stay.
        x.text(0);
        x.thing(5, 63);
        x.thing(11, 6);
        x.child(27, 4);
        x.child(40, 8);
        x.child(65, 10);
        x.seed(77);
        x.loose(3);
        Due.feed(x, "d=1");
        eachError(x);
        for (int c = 0; c < 4; c++) {
            x.change(c, 0, new int[] {1, 4, 8, 10}[c]);
            x.change(c, 1, 3 + c);
            x.change(c, 2, 5 + c);
        }
        x.it(1);
        x.tell(3);
        x.tell(4);
        Due.sheet(x, 0, 8, 1, 2, 3, 4);
        Due.sheet(x, 1, 8, 6, 7);
        Due.sheet(x, 2, 16, 9, 10, 11);
        x.voice(3, 3, 5);
    }

    private static void eachError(HomeCalls x) {
        x.thing(12, 0);
        x.judge(3);
        x.sheet(3, 8, -1);
        x.as(0, 2);
        for (int i = 0; i < 21; i++) {
            x.tell(i);
        }
        x.check();
    }

    /** As rich, but nobody runs and no THING has a mark: all but IT (13) are HAD by every CALL. */
    static void bare(HomeCalls x) {
        rich(x);
        for (int i = 0; i < 3; i++) {
            x.shift(i, 1, 0);
        }
        for (int c = 0; c < 4; c++) {
            x.become(c, 40 + c);
        }
    }

    static void things(HomeCalls x, int many) {
        for (int i = x.count(0); i < many; i++) {
            x.thing(i, 1);
        }
    }

    static void children(HomeCalls x, int many) {
        for (int c = x.count(1); c < many; c++) {
            x.child(10 * c, c);
        }
    }

    /** So many CALLS, on a street without CHILDREN, by GAMES. */
    static void played(HomeCalls x, int calls) {
        for (int left = calls - x.count(2); left > 0; left -= 40) {
            x.loose(Math.min(left, 40));
        }
    }
}
