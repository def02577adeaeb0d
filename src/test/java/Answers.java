import java.util.ArrayList;
import java.util.List;

/**
 * What an object answers to all that can be asked of it, also of what can only be seen by changing it (THE TAPE, numbers
 * that wait, SHEETS, the IMAGE). Asking uses the object up, so two objects that are alike are asked.
 */
final class Answers {
    /** No object is asked more than this; with what made it ready it stays below its 512 calls. */
    static final int MOST = 320;
    private final HomeCalls x;
    private final List<String> rows = new ArrayList<>();

    private Answers(HomeCalls x) {
        this.x = x;
    }

    static List<String> of(HomeCalls x) {
        Answers all = new Answers(x);
        all.street();
        all.trace();
        all.calls();
        all.tape(0);
        all.ask("check()", x.check());
        for (int sheet = 0; sheet < 4; sheet++) {
            all.sheet(sheet);
        }
        all.image();
        if (all.rows.size() > MOST) {
            throw new IllegalStateException("too many calls: " + all.rows.size());
        }
        return all.rows;
    }

    private int ask(String call, int answer) {
        rows.add(call + " = " + answer);
        return answer;
    }

    private void street() {
        for (int what = 0; what < 10; what++) {
            ask("count(" + what + ")", x.count(what));
        }
        int things = ask("things", x.count(0));
        for (int i = 0; i < things; i++) {
            ask("ofThing(" + i + ", 0)", x.ofThing(i, 0));
            ask("ofThing(" + i + ", 1)", x.ofThing(i, 1));
        }
        int children = ask("children", x.count(1));
        for (int c = 0; c < children; c++) {
            for (int what = 0; what < 7; what++) {
                ask("ofChild(" + c + ", " + what + ")", x.ofChild(c, what));
            }
        }
    }

    private void trace() {
        int bodies = ask("bodies", x.count(8));
        for (int i = 0; i < bodies; i++) {
            ask("trace(" + i + ")", x.trace(i));
        }
    }

    private void calls() {
        laws();
        for (int mark = 0; mark < 6; mark++) {
            ask("hadBy(" + mark + ", 2)", x.hadBy(mark, 2));
        }
    }

    private void laws() {
        for (int use = 0; use < 2; use++) {
            for (int a = -1; a < 7; a += 2) {
                ask("law(" + use + ", " + a + ", 1, 7)", x.law(use, a, 1, 7));
            }
        }
    }

    private void tape(int use) {
        ask("text(" + use + ")", x.text(use));
        laws();
    }

    /** How many numbers, which, and of how many bits. */
    private void sheet(int sheet) {
        if (ask("judge(" + sheet + ")", x.judge(sheet)) == Due.NONE) {
            return;
        }
        for (int i : new int[] {1, 2, 3, 4, 5, 39, 40, 41}) {
            ask("move(" + sheet + ", " + i + ", " + sheet + ", 0, 0)", x.move(sheet, i, sheet, 0, 0));
        }
        places(sheet);
        for (int shift : new int[] {8, 16}) {
            ask("put(" + sheet + ", 0, 1 << " + shift + ")", x.put(sheet, 0, 1 << shift));
            ask("places(" + sheet + ")", x.places(sheet));
        }
    }

    private void places(int sheet) {
        ask("places(" + sheet + ")", x.places(sheet));
        int children = ask("children", x.count(1));
        for (int c = 0; c < children; c++) {
            ask("number " + c + " of " + sheet, x.ofChild(c, 2));
        }
    }

    private void image() {
        if (ask("restore()", x.restore()) != Due.NONE) {
            street();
            tape(1);
            ask("check()", x.check());
        }
        ask("image()", x.image());
    }
}
