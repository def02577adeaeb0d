import java.util.function.Consumer;

/** The bounds that Terms 2 and promises 11 to 13 name: THE TAPE, NUMBERS, what is open, FAULTS, ints that wrap. */
public final class TextsBoundsTest {
    private static final int MIN = Integer.MIN_VALUE;
    private static final int MAX = Integer.MAX_VALUE;
    private static final Due due = new Due();
    private static final Bounds bounds = new Bounds(due);

    public static void main(String[] args) {
        bytesOfWord();
        tapeIsFull();
        use();
        faultsPlace();
        faultIsNoError();
        everyStartOfFifty();
        digits();
        open();
        oneBehindTheOther();
        oneComparison();
        everyByte();
        namesByUse();
        law();
        held();
        wraps();
        quotients();
        truths();
        due.end();
    }

    /** "The n lowest bytes (1 .. 8) of a word, the lowest first." */
    private static void bytesOfWord() {
        due.promise(11);
        bounds.on(Bounds::rich);
        bounds.range("feed: n", 1, 8, (x, v) -> x.feed(0, v), v -> 3 + v);
        for (int n = 1; n <= 8; n++) {
            HomeCalls x = new HomeCalls();
            due.is("feed(1+1+1+1+, " + n + ")", x.feed(0x2b_31_2b_31_2b_31_2b_31L, n), n);
            due.is("text of " + n, x.text(0), n % 2 == 1 ? 1 : -10 - n);
        }
        HomeCalls x = new HomeCalls();
        x.feed(0xff_31_2b_31_2b_31_2b_31L, 7);
        due.is("the eighth isn't fed", x.text(0), 1);
        x.feed(0xff_31_2b_31_2b_31_2b_31L, 8);
        due.is("the eighth is fed", x.text(0), -17);
        x.feed(0x31_2b_31_2b_31_2b_31_00L, 8);
        due.is("the lowest is the first", x.text(0), -10);
        x.feed(Long.MIN_VALUE, 8);
        due.is("MIN: the first is 0", x.text(0), -10);
        x.feed(Long.MIN_VALUE | '1', 1);
        due.is("one byte of it", x.text(0), 1);
    }

    /** "THE TAPE (bytes, at most 50)." */
    private static void tapeIsFull() {
        due.promise(11);
        int[][] rows = {{0, 8}, {41, 8}, {42, 8}, {43, 7}, {45, 5}, {48, 2}, {49, 1}};
        for (int[] row : rows) {
            bounds.on(tape(row[0]));
            bounds.gives(row[0] + " and " + row[1], x -> x.feed(0, row[1]), row[0] + row[1]);
        }
        int[][] full = {{43, 8}, {44, 7}, {45, 6}, {48, 3}, {49, 2}, {49, 8}, {50, 1}, {50, 2}, {50, 8}};
        for (int[] row : full) {
            bounds.on(tape(row[0]));
            bounds.refuses(row[0] + " and " + row[1], x -> x.feed(0x2b_31_2b_31_2b_31_2b_31L, row[1]), Due.FULL);
        }
        bounds.on(tape(50));
        bounds.outside("BEYOND ahead of FULL", 1, 8, (x, v) -> x.feed(0, v));
        bounds.on(x -> {
            Bounds.rich(x);
            Due.feed(x, "+1".repeat(23) + "+");
        });
        bounds.refuses("50 and 1", x -> x.feed('1', 1), Due.FULL);
        bounds.outside("BEYOND ahead of FULL", 1, 8, (x, v) -> x.feed(0, v));
        HomeCalls x = new HomeCalls();
        Due.feed(x, "1+".repeat(24) + "1");
        due.is("what is refused isn't fed in part", x.feed('+' + 256L * '1', 2), Due.FULL);
        due.is("49 bytes", x.count(6), 49);
        due.is("they are a TEXT", x.text(0), 1);
        due.is("empty then: 8 come again", x.feed(0, 8), 8);
    }

    /** Of so many bytes; an odd number of them is a TEXT. */
    private static Consumer<HomeCalls> tape(int bytes) {
        return x -> Due.feed(x, "1+".repeat(25).substring(0, bytes));
    }

    /** "BEYOND (THE TAPE stays)"; "THE TAPE, which is empty then". */
    private static void use() {
        due.promise(12);
        bounds.on(Bounds::rich);
        bounds.range("text: use", 0, 1, (x, v) -> x.text(v), v -> v == 0 ? 1 : -10);
        bounds.range("text, then count(6)", 0, 1, (x, v) -> x.text(v) == Due.BEYOND ? Due.BEYOND : x.count(6), v -> 0);
        bounds.on(tape(50));
        bounds.outside("text of 50 bytes: use", 0, 1, (x, v) -> x.text(v));
        bounds.on(x -> { });
        bounds.outside("text of no bytes: use", 0, 1, (x, v) -> x.text(v));
    }

    /** "FAULT: the place of the first byte with which no TEXT goes on; how many there are, if it ends too early." */
    private static void faultsPlace() {
        due.promise(12);
        String whole = "(1+2)*3";
        for (int place = 0; place < whole.length(); place++) {
            String broken = whole.substring(0, place) + "?" + whole.substring(place + 1);
            due.is(broken, Due.text(new HomeCalls(), 0, broken), -10 - place);
        }
        due.is("just behind", Due.text(new HomeCalls(), 0, whole + "?"), -17);
        due.is("the first of two", Due.text(new HomeCalls(), 0, "1??"), -11);
        due.is("no byte", new HomeCalls().text(0), -10);
        due.is("no byte", new HomeCalls().text(1), -10);
        due.is("one that is too few", Due.text(new HomeCalls(), 0, "("), -11);
        String fifty = "1+".repeat(24) + "1";
        due.is("49 bytes", Due.text(new HomeCalls(), 0, fifty), 1);
        due.is("50, too early", Due.text(new HomeCalls(), 0, fifty + "+"), -60);
        due.is("50, the last is wrong", Due.text(new HomeCalls(), 0, fifty + "?"), -59);
        due.is("50, the last is right", Due.text(new HomeCalls(), 0, fifty + "1"), 1);
        due.is("50, the last but one is wrong", Due.text(new HomeCalls(), 0, fifty.substring(0, 48) + "?1"), -58);
        due.is("50, the first is wrong", Due.text(new HomeCalls(), 0, "?" + fifty), -10);
    }

    /** "No ERROR; the one ahead stays; THE TAPE is empty, too." */
    private static void faultIsNoError() {
        due.promise(12);
        for (int use = 0; use < 2; use++) {
            for (String broken : new String[] {"", "?", "1+", "1?", "1+".repeat(25), "((((((", "12345"}) {
                HomeCalls x = new HomeCalls();
                due.is("one ahead", Due.text(x, use, "0"), 1);
                due.is(broken, Due.text(x, use, broken) <= -10 ? 1 : 0, 1);
                for (int k = 1; k <= 5; k++) {
                    due.is("told(" + k + ")", x.told(k), 0);
                }
                due.is("the one ahead stays", x.law(use, 1, 1, 1), 0);
                due.is("the other USE", x.law(1 - use, 1, 1, 1), 1);
                due.is("THE TAPE is empty", x.count(6), 0);
                due.is("in place of one ahead", Due.text(x, use, "1"), 1);
                due.is("in place of one ahead", x.law(use, 0, 0, 0), 1);
            }
        }
    }

    private static void everyStartOfFifty() {
        due.promise(12);
        String fifty = "(d<5|m%2=1)&!((b+1)*2>9)|1234/(m-d)=0-7&!!(1000>m)";
        due.is("bytes", fifty.length(), 50);
        for (int length = 0; length <= 50; length++) {
            String start = fifty.substring(0, length);
            due.is(start, Due.text(new HomeCalls(), 0, start), Grammar.answer(start));
        }
    }

    /** "A NUMBER of 1 to 4 digits." */
    private static void digits() {
        due.promise(12);
        String[] rows = {"1", "123", "1234", "9999", "0000", "0", "!1234", "(1234)", "1234+1234", "1234=1234", "12*1234"};
        for (String row : rows) {
            due.is(row, Due.text(new HomeCalls(), 0, row), 1);
        }
        due.is("12345", Due.text(new HomeCalls(), 0, "12345"), -14);
        due.is("00000", Due.text(new HomeCalls(), 0, "00000"), -14);
        due.is("123456", Due.text(new HomeCalls(), 0, "123456"), -14);
        due.is("1234+12345", Due.text(new HomeCalls(), 0, "1234+12345"), -19);
        due.is("!(12345", Due.text(new HomeCalls(), 0, "!(12345"), -16);
        HomeCalls x = new HomeCalls();
        due.is("9999=d", Due.text(x, 0, "9999=d"), 1);
        due.is("9999", x.law(0, 9999, 0, 0), 1);
        due.is("10000", x.law(0, 10000, 0, 0), 0);
        due.is("9998", x.law(0, 9998, 0, 0), 0);
        due.is("0009=d", Due.text(x, 0, "0009=d"), 1);
        due.is("0009", x.law(0, 9, 0, 0), 1);
    }

    /** "At most 5 of ! and ( are open at once", in all their orders. */
    private static void open() {
        due.promise(12);
        for (int many = 4; many <= 7; many++) {
            for (int order = 0; order < 1 << many; order++) {
                StringBuilder text = new StringBuilder();
                for (int i = 0; i < many; i++) {
                    text.append((order >> i & 1) == 1 ? '(' : '!');
                }
                text.append('d').append(")".repeat(Integer.bitCount(order)));
                due.is(text.toString(), Due.text(new HomeCalls(), 0, text.toString()), many <= 5 ? 1 : -15);
            }
        }
        String[] again = {"((((1)+((1)))))", "(((((1)))))+(((((1)))))", "!!!!!1+!!!!!1", "((((!1+!1+!1))))", "!!!!(1)+!!!!(1)",
            "(!(!(1)))+(!(!(1)))", "(((((1)+1)+1)+1)+1)", "!(!(!1)+!!1)", "(1)+(((((1)))))"};
        for (String text : again) {
            due.is(text, Due.text(new HomeCalls(), 0, text), 1);
        }
        String[] tooMany = {"((((1)+(((1))))):9", "(((((1)))))+((((((1:17", "!!!!!1+!!!!!!1:12", "((((!1+!!1:8", "!!!!(1)+!!!!((1:13",
            "(((((!1:5", "((((!(1:5", "!!!!!(1:5", "(1)+((((((1:9"};
        for (String row : tooMany) {
            int at = row.indexOf(':');
            String text = row.substring(0, at);
            due.is(text, Due.text(new HomeCalls(), 0, text), -10 - Integer.parseInt(row.substring(at + 1)));
        }
    }

    /** What a TEXT ahead left open, or wrote, counts for nothing in the next one. */
    private static void oneBehindTheOther() {
        due.promise(12);
        String five = "!!!!!" + "d";
        HomeCalls x = new HomeCalls();
        for (String ahead : new String[] {"(((((", "!!!!!", "!!!!!!", "(((((1", "1234", "12345", "", "1+", five, "1+".repeat(25)}) {
            Due.text(x, 0, ahead);
            due.is("behind " + ahead, Due.text(x, 0, five), 1);
            due.is("behind " + ahead, Due.text(x, 0, "1234"), 1);
            due.is("behind " + ahead, Due.text(x, 0, "((((((1"), -15);
        }
        for (int i = 0; i < 20; i++) {
            due.is("50 bytes", Due.text(x, 1, "n" + "+n".repeat(24) + " "), -59);
            due.is("48 bytes", Due.text(x, 1, "n" + "+1".repeat(22) + "=" + (22 + i)), 1);
            due.is("what it gives", x.law(1, i, 0, 0) * 10 + x.law(1, i + 1, 0, 0), 10);
        }
    }

    /** "B: S, or S < S, S = S, S > S": one comparison, not two, but for those in ( ). */
    private static void oneComparison() {
        due.promise(12);
        for (char first : "<=>".toCharArray()) {
            due.is("1" + first + "2", Due.text(new HomeCalls(), 0, "1" + first + "2"), 1);
            for (char second : "<=>".toCharArray()) {
                due.is("two", Due.text(new HomeCalls(), 0, "1" + first + "2" + second + "3"), -13);
                due.is("two", Due.text(new HomeCalls(), 0, "1+1" + first + "2*2" + second + "3"), -17);
                due.is("in ( )", Due.text(new HomeCalls(), 0, "(1" + first + "2)" + second + "3"), 1);
                due.is("in ( )", Due.text(new HomeCalls(), 0, "1" + first + "(2" + second + "3)"), 1);
                due.is("one each of &", Due.text(new HomeCalls(), 0, "1" + first + "2&3" + second + "4"), 1);
                due.is("one each of |", Due.text(new HomeCalls(), 0, "1" + first + "2|3" + second + "4"), 1);
                due.is("within ( )", Due.text(new HomeCalls(), 0, "(1" + first + "2" + second + "3)"), -14);
            }
        }
    }

    /** "No blanks", and no byte besides: each of 256 where a value is due, and where one has been. */
    private static void everyByte() {
        due.promise(12);
        for (int use = 0; use < 2; use++) {
            String names = use == 0 ? "dbm" : "nxb";
            for (int sign = 0; sign < 256; sign++) {
                char c = (char) sign;
                boolean digit = c >= '0' && c <= '9';
                boolean value = digit || names.indexOf(c) >= 0;
                boolean opens = c == '!' || c == '(';
                boolean joins = "|&<=>+-*/%".indexOf(c) >= 0;
                due.is("1+ and byte " + sign, Due.text(new HomeCalls(), use, "1+" + c), value ? 1 : opens ? -13 : -12);
                due.is("(1 and byte " + sign, Due.text(new HomeCalls(), use, "(1" + c), c == ')' ? 1 : digit || joins ? -13 : -12);
                due.is("name and byte " + sign, Due.text(new HomeCalls(), use, "b" + c), joins ? -12 : -11);
                due.is("(1) and byte " + sign, Due.text(new HomeCalls(), use, "(1)" + c), joins ? -14 : -13);
            }
        }
    }

    private static void namesByUse() {
        due.promise(12);
        String[] names = {"dbm", "nxb"};
        for (int use = 0; use < 2; use++) {
            for (char name : "dbmnx".toCharArray()) {
                due.is(name + " of " + use, Due.text(new HomeCalls(), use, "" + name), names[use].indexOf(name) >= 0 ? 1 : -10);
            }
        }
    }

    private static void law() {
        due.promise(13);
        bounds.on(Bounds::rich);
        bounds.range("law: use", 0, 1, (x, v) -> x.law(v, 5, 0, 0), v -> 1 - v);
        bounds.only("a question", x -> x.law(0, 5, 0, 7), 1);
        for (int v : new int[] {MIN, -1, 0, 1, MAX}) {
            bounds.only("any number " + v, x -> x.law(1, v, v, v), v < 3 ? 1 : 0);
        }
        bounds.on(x -> { });
        bounds.range("law, without a TEXT: use", 0, 1, (x, v) -> x.law(v, MIN, MAX, 0), v -> 1);
    }

    /** "Held within 0 to 1; without a TEXT 1." */
    private static void held() {
        due.promise(13);
        int[][] rows = {{MIN, 0}, {-2, 0}, {-1, 0}, {0, 0}, {1, 1}, {2, 1}, {3, 1}, {MAX, 1}};
        for (int use = 0; use < 2; use++) {
            for (int name = 0; name < 3; name++) {
                HomeCalls x = new HomeCalls();
                due.is("without a TEXT", x.law(use, 0, 0, 0), 1);
                Due.text(x, use, "" + (use == 0 ? "dbm" : "nxb").charAt(name));
                for (int[] row : rows) {
                    int v = row[0];
                    int answer = x.law(use, name == 0 ? v : 0, name == 1 ? v : 0, name == 2 ? v : 0);
                    due.is("name " + name + " of " + use + " is " + v, answer, row[1]);
                }
            }
        }
    }

    /** "Ints that wrap." */
    private static void wraps() {
        due.promise(13);
        is("d+1=b", MAX, MIN);
        is("d+1=b", MAX - 1, MAX);
        is("d-1=b", MIN, MAX);
        is("d-1=b", MIN + 1, MIN);
        is("0-d=b", MIN, MIN);
        is("0-d=b", MAX, -MAX);
        is("d*d=b", 46340, 2147395600);
        is("d*d=b", 46341, -2147479015);
        is("d*2=b", 1 << 30, MIN);
        is("d*2=b", MIN, 0);
        is("d/(0-1)=b", MIN, MIN);
        is("d/(0-1)=b", MIN + 1, MAX);
        is("d%(0-1)=b", MIN, 0);
        is("9999*9999*9999=b", 0, 9999 * 9999 * 9999);
        is("(d-1>0)=b", MIN, 1);
        is("(d<0)=b", MIN, 1);
        is("(d<d+1)=b", MAX, 0);
        ranks();
    }

    /** Which sign takes its sides first, each beside the next. */
    private static void ranks() {
        is("(1|1&0)=b", 0, 1);
        is("(0&1|1)=b", 0, 1);
        is("(1&1=b)", 0, 1);
        is("(0=0&d)=b", 0, 0);
        is("(2<1+2)=b", 0, 1);
        is("(1+2>2)=b", 0, 1);
        is("1+2*3=b", 0, 7);
        is("2*3+1=b", 0, 7);
        is("7-4/2=b", 0, 5);
        is("7-4%3=b", 0, 6);
        is("!0*5=b", 0, 5);
        is("9-4-3=b", 0, 2);
        is("9-4+3=b", 0, 8);
        is("24/4/2=b", 0, 3);
        is("24/4*2=b", 0, 12);
        is("25%7%3=b", 0, 1);
    }

    /** "/ cut, % the rest that it leaves, both by 0 are 0." */
    private static void quotients() {
        due.promise(13);
        int[][] rows = {{7, 3, 2}, {6, 3, 2}, {5, 3, 1}, {2, 3, 0}, {0, 3, 0}, {-2, 3, 0}, {-3, 3, -1}, {-5, 3, -1}, {-7, 3, -2},
            {7, -3, -2}, {-7, -3, 2}, {7, 1, 7}, {7, -1, -7}, {7, 0, 0}, {-7, 0, 0}, {0, 0, 0}, {MIN, 0, 0}, {MAX, 0, 0}};
        for (int[] row : rows) {
            HomeCalls x = new HomeCalls();
            Due.text(x, 0, "d/b=m");
            due.is(row[0] + "/" + row[1], x.law(0, row[0], row[1], row[2]), 1);
            Due.text(x, 0, "d%b=m");
            int rest = row[1] == 0 ? 0 : row[0] - row[1] * row[2];
            due.is(row[0] + "%" + row[1], x.law(0, row[0], row[1], rest), 1);
        }
    }

    /** "| & < = > ! are 1 or 0, what is not 0 being true", just below, at and just beyond. */
    private static void truths() {
        due.promise(13);
        for (int d : new int[] {MIN, -1, 0, 1, 2, MAX}) {
            int is = d == 0 ? 0 : 1;
            is("!d=b", d, 1 - is);
            is("!!d=b", d, is);
            is("(d|0)=b", d, is);
            is("(0|d)=b", d, is);
            is("(d|2)=b", d, 1);
            is("(d&2)=b", d, is);
            is("(2&d)=b", d, is);
            is("(0&d)=b", d, 0);
        }
        for (int d = 4; d <= 6; d++) {
            is("(d<5)=b", d, d < 5 ? 1 : 0);
            is("(d=5)=b", d, d == 5 ? 1 : 0);
            is("(d>5)=b", d, d > 5 ? 1 : 0);
        }
    }

    private static void is(String text, int d, int b) {
        HomeCalls x = new HomeCalls();
        due.is(text, Due.text(x, 0, text), 1);
        due.is(text + " with " + d + ", " + b, x.law(0, d, b, 0), 1);
        due.is(text + " with " + d + ", " + (b + 1), x.law(0, d, b + 1, 0), 0);
    }
}
