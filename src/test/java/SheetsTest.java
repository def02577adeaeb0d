/** Promises 32 to 36: SHEETS, and what their numbers are for. */
public final class SheetsTest {
    private static final Due due = new Due();

    public static void main(String[] args) {
        sheet();
        put();
        bits();
        move();
        moveWithin();
        places();
        judge();
        due.end();
    }

    private static void sheet() {
        due.promise(32);
        HomeCalls x = new HomeCalls();
        int[][] wrong = {{-1, 8, 1}, {4, 8, 1}, {0, 7, 1}, {0, 64, 1}, {0, -8, 1}, {0, 1, 1}, {0, 24, 1}};
        for (int[] w : wrong) {
            due.is("sheet, wrong", x.sheet(w[0], w[1], w[2]), Due.BEYOND);
            due.is("BEYOND ahead of STATE", x.sheet(w[0], w[1], -1), Due.BEYOND);
        }
        for (int bits : new int[] {8, 16, 32}) {
            due.is("41 numbers", x.sheet(0, bits, 41), Due.BEYOND);
            due.is("MAX numbers", x.sheet(0, bits, Integer.MAX_VALUE), Due.BEYOND);
            due.is("-1 numbers", x.sheet(0, bits, -1), Due.STATE);
            due.is("MIN numbers", x.sheet(0, bits, Integer.MIN_VALUE), Due.STATE);
            due.is("still missing", x.judge(0), Due.NONE);
        }
        due.is("told(3)", x.told(3), 6);
        for (int sheet = 0; sheet < 4; sheet++) {
            due.is("40 numbers", x.sheet(sheet, 8 << sheet % 3, 40), 1);
            due.is("number 39", x.put(sheet, 39, 1), 1);
            due.is("number 40", x.put(sheet, 40, 1), Due.BEYOND);
        }
        due.is("no numbers", x.sheet(1, 16, 0), 1);
        due.is("it is not missing", x.put(1, 0, 0), Due.BEYOND);
        due.is("missing, n doesn't matter", x.sheet(2, 0, -1), 1);
        due.is("it is missing", x.put(2, 0, 0), Due.NONE);
        due.is("missing, n doesn't matter", x.sheet(3, 0, 41), 1);
        due.is("it is missing", x.put(3, 0, 0), Due.NONE);
        due.is("missing, but no such SHEET", x.sheet(4, 0, 0), Due.BEYOND);
        due.is("a fault changes nothing", x.sheet(0, 16, 41), Due.BEYOND);
        due.is("a fault changes nothing", x.move(0, 0, 0, 39, 1), 1);
        HomeCalls y = new HomeCalls();
        y.child(0, 5);
        y.child(0, 5);
        Due.sheet(y, 0, 32, 3, 4);
        y.sheet(0, 32, 2);
        due.is("all 0", y.places(0), 2);
        due.is("all 0", y.ofChild(0, 2) + y.ofChild(1, 2), 0);
    }

    private static void put() {
        due.promise(33);
        HomeCalls x = new HomeCalls();
        x.sheet(0, 8, 3);
        due.is("no such SHEET", x.put(4, 0, 0), Due.BEYOND);
        due.is("no such SHEET", x.put(-1, 0, 0), Due.BEYOND);
        due.is("missing", x.put(1, 0, 0), Due.NONE);
        due.is("NONE ahead of BEYOND", x.put(1, -1, 0), Due.NONE);
        due.is("no such number", x.put(0, 3, 0), Due.BEYOND);
        due.is("no such number", x.put(0, -1, 0), Due.BEYOND);
        due.is("no such number", x.put(0, Integer.MAX_VALUE, 0), Due.BEYOND);
        due.is("put(0, 2, 7)", x.put(0, 2, 7), 1);
        x.child(0, 1);
        x.child(0, 1);
        x.child(0, 1);
        due.is("places(0)", x.places(0), 3);
        due.is("ofChild(1, 2)", x.ofChild(1, 2), 0);
        due.is("ofChild(2, 2)", x.ofChild(2, 2), 7);
    }

    /** A number is its lowest bits, seen by judge() and places(). */
    private static void bits() {
        due.promise(33);
        int[][] rows = {
            {8, 256 + 5, 5}, {8, -256 + 5, 5}, {8, 1 << 31, 0}, {8, 300, 44}, {8, 65536, 0}, {8, 127, 127}, {8, 200, 200},
            {16, 65536 + 999, 999}, {16, -65536 + 7, 7}, {16, 300, 300}, {16, 999, 999}, {32, 999, 999},
        };
        for (int[] row : rows) {
            HomeCalls x = new HomeCalls();
            x.child(0, 0);
            x.change(0, 2, row[2]);
            Due.sheet(x, 0, row[0], row[1]);
            due.is(row[1] + " of " + row[0] + " bits", x.judge(0), -1);
        }
        int[][] others = {{8, 999}, {16, 65536 + 3}, {32, 65536}, {32, 256}, {16, 256}};
        int[] safe = {999, 65536 + 3, 0, 0, 0};
        for (int i = 0; i < others.length; i++) {
            HomeCalls x = new HomeCalls();
            x.child(0, 0);
            x.change(0, 2, safe[i] % 1000);
            Due.sheet(x, 0, others[i][0], others[i][1]);
            due.is(others[i][1] + " of " + others[i][0] + " bits isn't " + safe[i] % 1000, x.judge(0), 0);
        }
    }

    private static void move() {
        due.promise(34);
        HomeCalls x = new HomeCalls();
        x.sheet(0, 8, 4);
        x.sheet(1, 8, 6);
        x.sheet(2, 16, 4);
        int[][] rows = {
            {4, 0, 0, 0, 1, Due.BEYOND}, {-1, 0, 0, 0, 1, Due.BEYOND}, {0, 0, 4, 0, 1, Due.BEYOND}, {0, 0, -1, 0, 1, Due.BEYOND},
            {4, 0, 3, 0, 1, Due.BEYOND}, {3, 0, 4, 0, 1, Due.BEYOND},
            {3, 0, 0, 0, 1, Due.NONE}, {0, 0, 3, 0, 1, Due.NONE}, {3, 0, 3, 0, 1, Due.NONE}, {0, 0, 3, 0, -1, Due.NONE},
            {0, 0, 2, 0, 1, Due.KIND}, {2, 0, 1, 0, 1, Due.KIND}, {0, -1, 2, 0, 1, Due.KIND}, {0, 0, 2, 0, 99, Due.KIND},
            {0, -1, 1, 0, 1, Due.BEYOND}, {0, 0, 1, -1, 1, Due.BEYOND}, {0, 0, 1, 0, -1, Due.BEYOND}, {0, 0, 1, 0, 5, Due.BEYOND},
            {1, 0, 0, 0, 5, Due.BEYOND}, {0, 1, 1, 0, 4, Due.BEYOND}, {1, 0, 0, 1, 4, Due.BEYOND}, {0, 5, 1, 0, 0, Due.BEYOND},
            {0, 0, 1, 7, 0, Due.BEYOND}, {0, Integer.MAX_VALUE, 1, 0, 1, Due.BEYOND}, {0, 1, 1, 0, Integer.MAX_VALUE, Due.BEYOND},
            {0, 0, 1, Integer.MAX_VALUE, 1, Due.BEYOND}, {0, Integer.MIN_VALUE, 1, 0, Integer.MIN_VALUE, Due.BEYOND},
            {0, 4, 1, 6, 0, 0}, {0, 0, 1, 2, 4, 4}, {0, 0, 0, 0, 4, 4}, {2, 1, 2, 0, 3, 3}, {1, 2, 0, 0, 4, 4},
        };
        for (int[] r : rows) {
            due.is("move(" + r[0] + ", " + r[1] + ", " + r[2] + ", " + r[3] + ", " + r[4] + ")",
                x.move(r[0], r[1], r[2], r[3], r[4]), r[5]);
        }
        HomeCalls y = new HomeCalls();
        Due.sheet(y, 0, 16, 1, 2, 3, 4);
        Due.sheet(y, 1, 16, 9, 9, 9);
        due.is("move(0, 1, 1, 0, 2)", y.move(0, 1, 1, 0, 2), 2);
        cells(y, 1, 2, 3, 9);
        cells(y, 0, 1, 2, 3, 4);
        due.is("move(0, 0, 1, 1, 0)", y.move(0, 0, 1, 1, 0), 0);
        cells(y, 1, 2, 3, 9);
    }

    private static void moveWithin() {
        due.promise(34);
        HomeCalls x = new HomeCalls();
        Due.sheet(x, 0, 32, 1, 2, 3, 4, 5);
        due.is("move(0, 0, 0, 1, 4)", x.move(0, 0, 0, 1, 4), 4);
        cells(x, 0, 1, 1, 2, 3, 4);
        Due.sheet(x, 0, 8, 1, 2, 3, 4, 5);
        due.is("move(0, 2, 0, 0, 3)", x.move(0, 2, 0, 0, 3), 3);
        cells(x, 0, 3, 4, 5, 4, 5);
    }

    /** Asks for numbers of a SHEET by places(). */
    private static void cells(HomeCalls x, int sheet, int... numbers) {
        while (x.count(1) < numbers.length) {
            x.child(0, 0);
        }
        x.places(sheet);
        for (int i = 0; i < numbers.length; i++) {
            due.is("number " + i, x.ofChild(i, 2), numbers[i]);
        }
    }

    private static void places() {
        due.promise(35);
        HomeCalls x = new HomeCalls();
        due.is("no such SHEET", x.places(4), Due.BEYOND);
        due.is("no such SHEET", x.places(-1), Due.BEYOND);
        due.is("missing", x.places(0), Due.NONE);
        Due.sheet(x, 0, 8, 1, 2);
        due.is("no CHILD", x.places(0), 0);
        for (int c = 0; c < 3; c++) {
            x.child(0, 6);
        }
        due.is("fewer numbers", x.places(0), 2);
        cellsAre(x, 1, 2, 6);
        Due.sheet(x, 1, 16, 11, 0, 3, 4);
        due.is("more numbers", x.places(1), 3);
        cellsAre(x, 11, 0, 3);
        for (int wrong : new int[] {12, -1, Integer.MIN_VALUE, Integer.MAX_VALUE}) {
            Due.sheet(x, 2, 32, 5, wrong, 5);
            due.is("up to " + wrong, x.places(2), 1);
            cellsAre(x, 5, 0, 3);
        }
        Due.sheet(x, 3, 8, -1, 1);
        due.is("the first is none", x.places(3), 0);
        cellsAre(x, 5, 0, 3);
        x.sheet(3, 8, 0);
        due.is("no numbers", x.places(3), 0);
        due.is("no ERROR", x.told(1), 2);
    }

    private static void cellsAre(HomeCalls x, int... cells) {
        for (int c = 0; c < cells.length; c++) {
            due.is("ofChild(" + c + ", 2)", x.ofChild(c, 2), cells[c]);
        }
    }

    private static void judge() {
        due.promise(36);
        HomeCalls x = new HomeCalls();
        due.is("no such SHEET", x.judge(4), Due.BEYOND);
        due.is("no such SHEET", x.judge(-1), Due.BEYOND);
        due.is("missing", x.judge(3), Due.NONE);
        x.sheet(0, 8, 0);
        due.is("no CHILDREN, no numbers", x.judge(0), -1);
        Due.sheet(x, 1, 8, 0);
        due.is("one is too many", x.judge(1), 0);
        for (int c = 0; c < 3; c++) {
            x.child(0, 0);
            x.change(c, 2, 10 * c + 1);
            x.change(c, 1, 500);
        }
        due.is("the first lacks", x.judge(0), 0);
        Due.sheet(x, 0, 8, 1, 11, 21);
        due.is("all are", x.judge(0), -1);
        Due.sheet(x, 0, 16, 1, 11);
        due.is("the last lacks", x.judge(0), 2);
        Due.sheet(x, 0, 32, 1, 11, 21, 0);
        due.is("one is too many", x.judge(0), 3);
        Due.sheet(x, 0, 32, 1, 12, 21, 0);
        due.is("the second isn't so", x.judge(0), 1);
        Due.sheet(x, 0, 32, 0, 11, 21);
        due.is("the first isn't so", x.judge(0), 0);
    }
}
