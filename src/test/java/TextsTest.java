/** Promises 11 to 13: THE TAPE, TEXTS, what a USE gives. */
public final class TextsTest {
    private static final Due due = new Due();

    public static void main(String[] args) {
        feed();
        text();
        faults();
        everyShortText();
        law();
        values();
        due.end();
    }

    private static void feed() {
        due.promise(11);
        HomeCalls x = new HomeCalls();
        due.is("feed(0, 0)", x.feed(0, 0), Due.BEYOND);
        due.is("feed(0, 9)", x.feed(0, 9), Due.BEYOND);
        due.is("feed(0, -1)", x.feed(0, -1), Due.BEYOND);
        due.is("feed(0, MIN)", x.feed(0, Integer.MIN_VALUE), Due.BEYOND);
        for (int i = 1; i <= 6; i++) {
            due.is("feed(-1, 8)", x.feed(-1L, 8), 8 * i);
        }
        due.is("48 and 3", x.feed(0, 3), Due.FULL);
        due.is("BEYOND ahead of FULL", x.feed(0, 9), Due.BEYOND);
        due.is("count(6)", x.count(6), 48);
        due.is("48 and 2", x.feed(0, 2), 50);
        due.is("50 and 1", x.feed(0, 1), Due.FULL);
        due.is("count(6)", x.count(6), 50);
        due.is("first byte of -1", x.text(0), -10);

        HomeCalls y = new HomeCalls();
        y.feed('1' + 256L * '+', 2);
        due.is("1+, the lowest first", y.text(0), -12);
        y.feed('+' + 256L * '1', 2);
        due.is("+1, the lowest first", y.text(0), -10);
        y.feed(0x2b_31_2b_31_2b_31_2b_31L, 8);
        due.is("1+1+1+1+", y.text(0), -18);
        y.feed(0xff_31L, 1);
        due.is("no more than n bytes", y.text(0), 1);
        due.is("feed(d<, 2)", y.feed('d' + 256L * '<', 2), 2);
        due.is("feed(5, 1)", y.feed('5', 1), 3);
        due.is("fed in two words", y.text(0), 1);
        due.is("law(0, 4, 0, 0)", y.law(0, 4, 0, 0), 1);
        due.is("law(0, 5, 0, 0)", y.law(0, 5, 0, 0), 0);
    }

    private static void text() {
        due.promise(12);
        HomeCalls x = new HomeCalls();
        Due.feed(x, "0");
        due.is("text(2)", x.text(2), Due.BEYOND);
        due.is("text(-1)", x.text(-1), Due.BEYOND);
        due.is("THE TAPE stays", x.count(6), 1);
        due.is("text(0)", x.text(0), 1);
        due.is("THE TAPE is empty", x.count(6), 0);
        due.is("law(0)", x.law(0, 0, 0, 0), 0);
        due.is("the other USE", x.law(1, 0, 0, 0), 1);
        due.is("a fault", Due.text(x, 0, "1+"), -12);
        due.is("the one ahead stays", x.law(0, 0, 0, 0), 0);
        due.is("THE TAPE is empty", x.count(6), 0);
        due.is("an empty TAPE", x.text(0), -10);
        due.is("the one ahead stays", x.law(0, 0, 0, 0), 0);
        due.is("in place of it", Due.text(x, 0, "7"), 1);
        due.is("law(0)", x.law(0, 0, 0, 0), 1);
        due.is("no ERROR is told", x.told(1) + x.told(2) + x.told(3) + x.told(4) + x.told(5), 2);
        due.is("50 bytes", Due.text(x, 1, "1+".repeat(24) + "10"), 1);
        due.is("law(1)", x.law(1, 0, 0, 0), 1);
        due.is("50 bytes, each of its own", Due.text(x, 1, "!0" + "+0".repeat(24)), 1);
        due.is("law(1)", x.law(1, 0, 0, 0), 1);
        due.is("50 bytes, each of its own", Due.text(x, 1, "!1" + "+0".repeat(24)), 1);
        due.is("law(1)", x.law(1, 0, 0, 0), 0);
        due.is("50 bytes, too early", Due.text(x, 1, "1+".repeat(25)), -60);
    }

    private static void faults() {
        due.promise(12);
        String[] whole = {"1", "1234", "0000", "d", "b", "m", "!d", "!!!!!d", "(d)", "(((((d)))))", "!(!(!d))",
            "!!(!(d))", "!!!!!d+!!!!!d", "(((((d))))+1)", "1<2", "(1<2)<3", "1<2&3>4|5=6", "1<2|1<2", "1-1*2/3%4+5",
            "1*!2", "1<!2", "(1)*(2)", "!(1)<2", "d&b|m", "1+(2<3)*4", "!1=!2",
            "(1)+(1)+(1)+(1)+(1)+(1)", "!1+!1+!1+!1+!1+!1", "!(1)*!(1)*!(1)*!(1)*!(1)*!(1)"};
        for (String text : whole) {
            due.is(text, Due.text(new HomeCalls(), 0, text), 1);
        }
        String[] broken = {"12345:4", "1 2:1", " 1:0", "+:0", "-1:0", "1++1:2", "1<2<3:3", "1=2>3:3", "1<2+3<4:5",
            "1<2&3<4<5:7", "(1<2<3):4", "1&2<3=4:5", ":0", "(:1", "(1:2", "(1)):3", ")1:0", "1):1", "():1", "!:1", "1!:1",
            "1(:1", "(1)2:3", "(1)d:3", "d1:1", "1d:1", "dd:1", "!!!!!!d:5", "((((((d:5", "!(!(!(d:5", "!!(!(!d:5", "1+!!!!!!d:7",
            "(((((d)))))(:11", "n:0", "x:0", "1|:2", "1&&1:2", "1||1:2", "1<>2:2", "1==2:2", "1*/2:2", "1%:2", "D:0",
            "d<5&m%2)+:7", "1234+12345:9", "!12345:5", "(((((d)))))+((((((d:17", "a:0", "\u0000:0", "\u00ff:0", "1\u00ff:1",
            "(1+2:4", "((1):4", "1+(:3", "1*!:3"};
        for (String row : broken) {
            int at = row.lastIndexOf(':');
            String text = row.substring(0, at);
            int fault = Integer.parseInt(row.substring(at + 1));
            due.is(text, Due.text(new HomeCalls(), 0, text), -10 - fault);
        }
        for (char name : "nxb".toCharArray()) {
            due.is("use 1: " + name, Due.text(new HomeCalls(), 1, "" + name), 1);
        }
        due.is("use 1: d", Due.text(new HomeCalls(), 1, "d"), -10);
        due.is("use 1: 1+m", Due.text(new HomeCalls(), 1, "1+m"), -12);
        for (int sign = 0; sign < 256; sign++) {
            boolean starts = "0123456789dbm".indexOf(sign) >= 0;
            boolean opens = sign == '!' || sign == '(';
            due.is("sign " + sign, Due.text(new HomeCalls(), 0, "" + (char) sign), starts ? 1 : opens ? -11 : -10);
            boolean goesOn = "0123456789".indexOf(sign) >= 0;
            boolean joins = "|&<=>+-*/%".indexOf(sign) >= 0;
            due.is("1 and sign " + sign, Due.text(new HomeCalls(), 0, "1" + (char) sign), goesOn ? 1 : joins ? -12 : -11);
        }
    }

    /** Every text of up to 5 signs: the FAULT is found by trying whether any ending makes a TEXT of what stands. */
    private static void everyShortText() {
        due.promise(12);
        String signs = "1!()+<&";
        StringBuilder text = new StringBuilder();
        HomeCalls x = new HomeCalls();
        int calls = 0;
        int most = 7 * 7 * 7 * 7 * 7;
        for (int length = 1, all = 7; all <= most; length++, all *= 7) {
            for (int number = 0; number < all; number++) {
                text.setLength(0);
                for (int i = 0, rest = number; i < length; i++, rest /= 7) {
                    text.append(signs.charAt(rest % 7));
                }
                calls += 2;
                if (calls > 500) {
                    x = new HomeCalls();
                    calls = 2;
                }
                due.is(text.toString(), Due.text(x, 0, text.toString()), Grammar.answer(text.toString()));
            }
        }
    }

    private static void law() {
        due.promise(13);
        HomeCalls x = new HomeCalls();
        due.is("without a TEXT", x.law(0, 0, 0, 0), 1);
        due.is("law(2)", x.law(2, 0, 0, 0), Due.BEYOND);
        due.is("law(-1)", x.law(-1, 0, 0, 0), Due.BEYOND);
        Due.text(x, 0, "d*100+b*10+m=123");
        due.is("d, b, m", x.law(0, 1, 2, 3), 1);
        due.is("d, b, m", x.law(0, 3, 2, 1), 0);
        Due.text(x, 1, "n*100+x*10+b=123");
        due.is("n, x, b", x.law(1, 1, 2, 3), 1);
        due.is("n, x, b", x.law(1, 2, 1, 3), 0);
        Due.text(x, 0, "d");
        int[][] held = {{0, 0}, {1, 1}, {2, 1}, {-1, 0}, {Integer.MAX_VALUE, 1}, {Integer.MIN_VALUE, 0}};
        for (int[] h : held) {
            due.is("law(0, " + h[0] + ")", x.law(0, h[0], 5, 5), h[1]);
        }
        Due.text(x, 1, "0-n");
        due.is("held, 1", x.law(1, 5, 0, 0), 0);
        due.is("held, 1", x.law(1, -5, 0, 0), 1);
    }

    /** text, d, b, m, and whether it is true. */
    private static void values() {
        due.promise(13);
        Object[][] rows = {
            {"d+b=m", 2, 3, 5}, {"d-b=m", 2, 3, -1}, {"d-b-1=m", 9, 3, 5}, {"d*b=m", 4, 3, 12}, {"d/b=m", 7, 2, 3},
            {"d/b=m", -7, 2, -3}, {"d%b=m", 7, 4, 3}, {"d%b=m", -7, 4, -3}, {"d/b=m", 7, 0, 0}, {"d%b=m", 7, 0, 0},
            {"d/b=m", Integer.MIN_VALUE, -1, Integer.MIN_VALUE}, {"d%b=m", Integer.MIN_VALUE, -1, 0},
            {"d+b=m", Integer.MAX_VALUE, 1, Integer.MIN_VALUE}, {"d*b=m", 65536, 65536, 0},
            {"d/b*2=m", 7, 2, 6}, {"d-b+1=m", 5, 3, 3}, {"100/d/b=m", 5, 2, 10}, {"100/(d/b)=m", 10, 2, 20},
            {"d+b*2=m", 1, 3, 7}, {"(d+b)*2=m", 1, 3, 8}, {"d%b*3=m", 7, 4, 9},
            {"(d<b)=m", 1, 2, 1}, {"(d<b)=m", 2, 2, 0}, {"(d>b)=m", 3, 2, 1}, {"(d>b)=m", 2, 2, 0}, {"(d=b)=m", 2, 2, 1},
            {"(d=b)=m", 2, 3, 0}, {"(d|b)=m", 0, 7, 1}, {"(d|b)=m", -3, 0, 1}, {"(d|b)=m", 0, 0, 0}, {"(d&b)=m", 5, 7, 1},
            {"(d&b)=m", 2, 1, 1}, {"(d&b)=m", 5, 0, 0}, {"!d=m", 0, 0, 1}, {"!d=m", 9, 0, 0}, {"!!d=m", 9, 0, 1},
            {"!d+b=m", 0, 4, 5}, {"!d*b=m", 0, 4, 4}, {"!(d+b)=m", 1, -1, 1}, {"!(d)+b=m", 3, 2, 2},
            {"(d<b+1)=m", 2, 2, 1}, {"(d|b&0)=m", 1, 1, 1}, {"((d|b)&0)=m", 1, 1, 0}, {"(1<2&d>b)=m", 3, 2, 1},
            {"(0&1|1)=m", 0, 0, 1}, {"(1|1&0)=m", 0, 0, 1}, {"9999+d=m", 1, 0, 10000}, {"0012=m", 0, 0, 12},
            {"(d&1=b)=m", 1, 1, 1}, {"(2=2&0)=m", 0, 0, 0}, {"2-(3-4)=m", 0, 0, 3}, {"2-3-4=m", 0, 0, -5},
            {"12/2*3=m", 0, 0, 18},
        };
        for (Object[] row : rows) {
            HomeCalls x = new HomeCalls();
            String text = (String) row[0];
            due.is(text, Due.text(x, 0, text), 1);
            due.is(text, x.law(0, (int) row[1], (int) row[2], (int) row[3]), 1);
        }
    }
}
