/** What the tests share: it compares answers with those that are due, and ends the program by them. */
final class Due {
    static final int BEYOND = -1000000001;
    static final int NONE = -1000000002;
    static final int STATE = -1000000003;
    static final int FULL = -1000000004;
    static final int KIND = -1000000005;
    /** Numbers that are beyond every range of the document. */
    static final int[] FAR_OFF = {Integer.MIN_VALUE, -2, 1000, Integer.MAX_VALUE};

    private int promise;
    private int asked;
    private int wrong;

    void promise(int number) {
        promise = number;
    }

    void is(String call, long got, long want) {
        asked++;
        if (got != want) {
            wrong++;
            System.out.println("promise " + promise + ": " + call + " answered " + got + ", due is " + want);
        }
    }

    void end() {
        System.out.println(asked + " answers, " + wrong + " not as due");
        if (wrong != 0) {
            System.exit(1);
        }
    }

    /** Feeds a text of any length; its signs are bytes. */
    static int feed(HomeCalls x, String text) {
        int answer = x.count(6);
        for (int from = 0; from < text.length(); from += 8) {
            int n = Math.min(8, text.length() - from);
            long word = 0;
            for (int i = n - 1; i >= 0; i--) {
                word = word << 8 | text.charAt(from + i);
            }
            answer = x.feed(word, n);
        }
        return answer;
    }

    static int text(HomeCalls x, int use, String text) {
        feed(x, text);
        return x.text(use);
    }

    /** A new SHEET with these numbers. */
    static void sheet(HomeCalls x, int sheet, int bits, int... numbers) {
        x.sheet(sheet, bits, numbers.length);
        for (int i = 0; i < numbers.length; i++) {
            x.put(sheet, i, numbers[i]);
        }
    }
}
