/** Promises 37 to 42: IMAGES, numbers that wait, what is told. */
public final class ImagesTest {
    private static final Due due = new Due();

    public static void main(String[] args) {
        imageKeeps();
        imageKeepsNot();
        imageStays();
        tell();
        check();
        count();
        told();
        due.end();
    }

    private static void imageKeeps() {
        due.promise(37);
        HomeCalls x = new HomeCalls();
        x.thing(3, 5);
        x.child(12, 4);
        x.child(40, 5);
        x.change(0, 1, 8);
        x.change(0, 2, 9);
        x.call(5, 0);
        x.it(1);
        x.seed(77);
        Due.text(x, 0, "d<2");
        Due.text(x, 1, "n<2");
        Due.feed(x, "1+");
        x.tell(9);
        x.tell(1);
        due.is("image()", x.image(), 1);

        x.shift(0, 0, 6);
        x.shift(0, 1, 7);
        x.thing(1, 1);
        x.become(0, 69);
        x.change(0, 0, 11);
        x.change(0, 1, 0);
        x.change(0, 2, 0);
        x.child(0, 0);
        x.call(0, 9);
        x.it(0);
        x.seed(3);
        Due.feed(x, "1");
        x.text(0);
        Due.text(x, 1, "0");
        Due.feed(x, "7777");
        x.check();
        x.tell(5);
        due.promise(38);
        due.is("restore()", x.restore(), 1);
        int[] counts = {1, 2, 1, 1, 10, 9, 2, 2, 0, 77};
        for (int what = 0; what < counts.length; what++) {
            due.is("count(" + what + ")", x.count(what), counts[what]);
        }
        int[] ofChild = {1, 2, 4, 9, 9};
        for (int what = 0; what < ofChild.length; what++) {
            due.is("ofChild(0, " + what + ")", x.ofChild(0, what), ofChild[what]);
        }
        due.is("ofThing(0, 0)", x.ofThing(0, 0), 3);
        due.is("ofThing(0, 1)", x.ofThing(0, 1), 5);
        due.is("law(0, 1)", x.law(0, 1, 0, 0), 1);
        due.is("law(0, 2)", x.law(0, 2, 0, 0), 0);
        due.is("law(1, 1)", x.law(1, 1, 0, 0), 1);
        due.is("law(1, 2)", x.law(1, 2, 0, 0), 0);
        Due.feed(x, "1=2");
        due.is("THE TAPE: 1+1=2", x.text(0), 1);
        due.is("law(0)", x.law(0, 5, 0, 0), 1);
        due.is("the numbers that wait", x.check(), 0);
    }

    private static void imageKeepsNot() {
        due.promise(37);
        HomeCalls x = new HomeCalls();
        x.child(0, 5);
        Due.sheet(x, 0, 8, 1);
        x.voice(0, 0, 0);
        due.is("image()", x.image(), 1);
        Due.sheet(x, 0, 8, 2);
        x.sheet(1, 16, 1);
        x.voice(0, 1, 0);
        x.thing(12, 0);
        due.is("image()", x.image(), 2);
        x.restore();
        due.promise(38);
        due.is("THE TRACE", x.count(8), 2);
        due.is("told(1)", x.told(1), 1);
        due.is("SHEET 1", x.put(1, 0, 0), 1);
        due.is("SHEET 0", x.places(0), 1);
        due.is("SHEET 0", x.ofChild(0, 2), 2);
        due.is("how often", x.image(), 3);
    }

    private static void imageStays() {
        due.promise(38);
        HomeCalls x = new HomeCalls();
        due.is("there is none", x.restore(), Due.NONE);
        due.is("told(2)", x.told(2), 1);
        x.child(0, 0);
        x.call(0, 0);
        due.is("image()", x.image(), 1);
        for (int i = 0; i < 3; i++) {
            x.call(0, 0);
            x.call(0, 0);
            x.change(0, 0, 5);
            due.is("restore()", x.restore(), 1);
            due.is("ofChild(0, 2)", x.ofChild(0, 2), 0);
        }
        x.call(0, 0);
        due.promise(37);
        due.is("in place of one ahead", x.image(), 2);
        x.call(0, 0);
        due.is("in place of one ahead", x.restore(), 2);
        HomeCalls empty = new HomeCalls();
        empty.image();
        empty.thing(0, 0);
        due.promise(38);
        due.is("an IMAGE of nothing", empty.restore(), 0);
        due.is("count(0)", empty.count(0), 0);
    }

    private static void tell() {
        due.promise(39);
        HomeCalls x = new HomeCalls();
        for (int i = 1; i <= 20; i++) {
            due.is("tell", x.tell(i == 1 ? Integer.MIN_VALUE : -i), i);
        }
        due.is("20 wait", x.tell(0), Due.FULL);
        due.is("count(7)", x.count(7), 20);
        due.is("told(4)", x.told(4), 1);
        due.is("none is so", x.check(), 1);
        due.is("tell(0)", x.tell(0), 1);
    }

    private static void check() {
        due.promise(40);
        HomeCalls x = new HomeCalls();
        due.is("none wait", x.check(), 0);
        x.tell(0);
        due.is("there is no CHILD", x.check(), 1);
        due.is("none do then", x.count(7), 0);
        due.is("none wait", x.check(), 0);
        for (int c = 0; c < 3; c++) {
            x.child(0, 0);
            x.change(c, 1, 10 * c + 5);
            x.change(c, 2, 1);
        }
        int[][] rows = {{0, 5}, {0, 5, 15}, {0, 5, 15, 25}, {4, 5, 15, 25, 0}, {1, 4, 15}, {2, 5, 16, 25}, {3, 5, 15, 24},
            {2, 5, 14, 24}, {1, -1}};
        for (int[] row : rows) {
            for (int i = 1; i < row.length; i++) {
                x.tell(row[i]);
            }
            due.is("check()", x.check(), row[0]);
            due.is("count(7)", x.count(7), 0);
        }
    }

    private static void count() {
        due.promise(41);
        HomeCalls x = new HomeCalls();
        x.thing(0, 1);
        x.thing(0, 0);
        x.thing(0, 0);
        x.child(40, 0);
        x.child(40, 1);
        x.child(40, 1);
        x.child(40, 1);
        x.call(0, 0);
        x.call(0, 0);
        Due.feed(x, "1+1+1");
        x.tell(0);
        x.tell(0);
        x.voice(0, 3, 0);
        x.seed(-1000000005);
        int[] counts = {3, 4, 2, 2, 5, 2, 5, 2, 8, -1000000005};
        for (int what = 0; what < counts.length; what++) {
            due.is("count(" + what + ")", x.count(what), counts[what]);
        }
        due.is("count(10)", x.count(10), Due.BEYOND);
        due.is("count(-1)", x.count(-1), Due.BEYOND);
        due.is("count(MIN)", x.count(Integer.MIN_VALUE), Due.BEYOND);
        due.is("told(1)", x.told(1), 3);
        due.is("told(5)", x.told(5), 0);
    }

    private static void told() {
        due.promise(42);
        HomeCalls x = new HomeCalls();
        due.is("told(0)", x.told(0), Due.BEYOND);
        due.is("counted, too", x.told(1), 1);
        due.is("told(6)", x.told(6), Due.BEYOND);
        due.is("told(-1)", x.told(-1), Due.BEYOND);
        due.is("told(MAX)", x.told(Integer.MAX_VALUE), Due.BEYOND);
        due.is("told(1)", x.told(1), 4);
        x.restore();
        x.trace(0);
        x.sheet(0, 8, -1);
        x.child(0, 0);
        x.as(0, 1);
        x.as(0, 2);
        for (int i = 0; i < 8; i++) {
            x.thing(0, 0);
        }
        x.thing(0, 0);
        x.lay(0, 0, 0);
        x.thing(0, 0);
        Due.text(x, 0, "+");
        int[] errors = {4, 2, 1, 3, 2};
        for (int k = 1; k <= 5; k++) {
            due.is("told(" + k + ")", x.told(k), errors[k - 1]);
        }
    }
}
