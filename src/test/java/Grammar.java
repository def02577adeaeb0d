/**
 * The grammar of TEXTS of USE 0, once more and otherwise: a text is one if some way of cutting it up
 * makes it one, and a FAULT is where no ending makes one.
 */
final class Grammar {
    private static final String RULES = "TABSPQ";
    private final String text;
    /** By rule, from, to, open: 0 not known, 1 no, 2 yes. */
    private final byte[] known;

    private Grammar(String text) {
        this.text = text;
        known = new byte[RULES.length() * (text.length() + 1) * (text.length() + 1) * 6];
    }

    /** What text(0) should answer. */
    static int answer(String text) {
        if (isText(text)) {
            return 1;
        }
        for (int i = 0; i < text.length(); i++) {
            if (!goesOn(text.substring(0, i + 1))) {
                return -10 - i;
            }
        }
        return -10 - text.length();
    }

    /** All that a start can lack is a value and some ). */
    private static boolean goesOn(String start) {
        String close = "";
        for (int open = 0; open <= 5; open++) {
            if (isText(start + close) || isText(start + "1" + close)) {
                return true;
            }
            close += ")";
        }
        return false;
    }

    static boolean isText(String text) {
        return new Grammar(text).is('T', 0, text.length(), 0);
    }

    private boolean is(char rule, int from, int to, int open) {
        int size = text.length() + 1;
        int key = ((RULES.indexOf(rule) * size + from) * size + to) * 6 + open;
        if (known[key] == 0) {
            known[key] = (byte) (find(rule, from, to, open) ? 2 : 1);
        }
        return known[key] == 2;
    }

    private boolean find(char rule, int from, int to, int open) {
        if (from >= to) {
            return false;
        }
        switch (rule) {
            case 'T':
                return is('A', from, to, open) || splits('T', "|", 'A', from, to, open);
            case 'A':
                return is('B', from, to, open) || splits('A', "&", 'B', from, to, open);
            case 'B':
                return is('S', from, to, open) || splits('S', "<=>", 'S', from, to, open);
            case 'S':
                return is('P', from, to, open) || splits('S', "+-", 'P', from, to, open);
            case 'P':
                return is('Q', from, to, open) || splits('P', "*/%", 'Q', from, to, open);
            default:
                return isQ(from, to, open);
        }
    }

    private boolean splits(char left, String signs, char right, int from, int to, int open) {
        for (int i = from + 1; i < to - 1; i++) {
            if (signs.indexOf(text.charAt(i)) >= 0 && is(left, from, i, open) && is(right, i + 1, to, open)) {
                return true;
            }
        }
        return false;
    }

    private boolean isQ(int from, int to, int open) {
        String q = text.substring(from, to);
        if (q.matches("[0-9]{1,4}|[dbm]")) {
            return true;
        }
        if (q.startsWith("!")) {
            return open < 5 && is('Q', from + 1, to, open + 1);
        }
        return q.startsWith("(") && q.endsWith(")") && open < 5 && is('T', from + 1, to - 1, open + 1);
    }
}
