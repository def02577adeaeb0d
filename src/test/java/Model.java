import java.util.ArrayList;
import java.util.Arrays;
import java.util.List;
import java.util.TreeSet;
import java.util.stream.IntStream;

/** The document once more, in the plainest words and without care for what it costs; ModelTest compares. */
final class Model {
    static final class Thing {
        int cell;
        int marks;

        Thing(int cell, int marks) {
            this.cell = cell;
            this.marks = marks;
        }

        boolean has(int mark) {
            return (marks & (1 << mark)) != 0;
        }
    }

    static final class Kid {
        int kind;
        int m;
        int at;
        int had;
        int safe;
    }

    static final class State {
        List<Thing> things = new ArrayList<>();
        List<Kid> kids = new ArrayList<>();
        int it = -1;
        int calls;
        int z = 1;
        String[] texts = new String[2];
        String tape = "";
        List<Integer> waiting = new ArrayList<>();

        State copy() {
            State c = new State();
            for (Thing t : things) {
                c.things.add(new Thing(t.cell, t.marks));
            }
            for (Kid k : kids) {
                Kid d = new Kid();
                d.kind = k.kind;
                d.m = k.m;
                d.at = k.at;
                d.had = k.had;
                d.safe = k.safe;
                c.kids.add(d);
            }
            c.it = it;
            c.calls = calls;
            c.z = z;
            c.texts = texts.clone();
            c.tape = tape;
            c.waiting.addAll(waiting);
            return c;
        }

        int pace(Kid k) {
            int child = 1;
            int girl = 2;
            int broker = calls % 2 == 0 ? 1 : 0;
            return new int[] {child, child + k.m % 2, girl, broker, 0, girl + (it == -1 ? 1 : 0), broker + k.m % 3}[k.kind];
        }

        int far(Kid k) {
            int girl = 6 - k.m % 3;
            return new int[] {6, 5, girl, 2, 5, girl + 1, 2}[k.kind];
        }

        static int off(int a, int b) {
            return Math.min(((a - b) % 12 + 12) % 12, ((b - a) % 12 + 12) % 12);
        }

        int law(int use, int a, int b, int c) {
            if (texts[use] == null) {
                return 1;
            }
            int v = new Value(texts[use], use == 0 ? "dbm" : "nxb", a, b, c).of();
            return v < 0 ? 0 : v > 1 ? 1 : v;
        }

        /** Where a CHILD would be behind a CALL. */
        int end(int n, int mark, int t) {
            Kid k = kids.get(n);
            if (n == it) {
                return k.at;
            }
            for (int off = 0; off <= far(k); off++) {
                for (Thing thing : things) {
                    if (thing.has(mark) && off(k.at, thing.cell) == off && law(0, off, mark, k.m) != 0) {
                        int cell = k.at;
                        int step = (k.at + off) % 12 == thing.cell ? 1 : 11;
                        for (int i = 0; i < pace(k) * t && cell != thing.cell; i++) {
                            cell = (cell + step) % 12;
                        }
                        return cell;
                    }
                }
            }
            return k.at;
        }

        TreeSet<Integer> had(int mark, int t) {
            List<Integer> ends = new ArrayList<>();
            for (int n = 0; n < kids.size(); n++) {
                ends.add(end(n, mark, t));
            }
            TreeSet<Integer> had = new TreeSet<>();
            for (int n = 0; n < kids.size(); n++) {
                int cell = ends.get(n);
                long crowd = IntStream.range(0, kids.size()).filter(i -> i != it && ends.get(i) == cell).count();
                Thing there = things.stream().filter(s -> s.cell == cell && s.has(mark)).findFirst().orElse(null);
                if (n != it && (there == null || law(1, (int) crowd, there.marks, mark) == 0)) {
                    had.add(n);
                }
            }
            return had;
        }

        TreeSet<Integer> play(int mark, int t) {
            TreeSet<Integer> had = had(mark, t);
            int[] ends = IntStream.range(0, kids.size()).map(n -> end(n, mark, t)).toArray();
            for (int n = 0; n < kids.size(); n++) {
                Kid k = kids.get(n);
                k.at = ends[n];
                if (had.contains(n)) {
                    k.had = Math.min(999, k.had + 1);
                } else if (n != it) {
                    k.safe = Math.min(999, k.safe + 1);
                }
            }
            it = had.isEmpty() ? -1 : had.first();
            calls++;
            return had;
        }
    }

    /** Works out a TEXT that is known to be one. */
    static final class Value {
        private final String text;
        private final String names;
        private final int[] values;
        private int i;

        Value(String text, String names, int... values) {
            this.text = text;
            this.names = names;
            this.values = values;
        }

        int of() {
            return t();
        }

        private boolean next(String signs) {
            return i < text.length() && signs.indexOf(text.charAt(i)) >= 0;
        }

        private int t() {
            int v = a();
            while (next("|")) {
                i++;
                int w = a();
                v = v != 0 | w != 0 ? 1 : 0;
            }
            return v;
        }

        private int a() {
            int v = b();
            while (next("&")) {
                i++;
                int w = b();
                v = v != 0 & w != 0 ? 1 : 0;
            }
            return v;
        }

        private int b() {
            int v = s();
            if (next("<=>")) {
                char sign = text.charAt(i++);
                int order = Integer.compare(v, s());
                v = order == sign - '=' ? 1 : 0;
            }
            return v;
        }

        private int s() {
            int v = p();
            while (next("+-")) {
                v = text.charAt(i++) == '+' ? v + p() : v - p();
            }
            return v;
        }

        private int p() {
            int v = q();
            while (next("*/%")) {
                char sign = text.charAt(i++);
                long w = q();
                v = sign == '*' ? (int) (v * w) : w == 0 ? 0 : (int) (sign == '/' ? v / w : v % w);
            }
            return v;
        }

        private int q() {
            char sign = text.charAt(i++);
            if (sign == '!') {
                return q() == 0 ? 1 : 0;
            }
            if (sign == '(') {
                int v = t();
                i++;
                return v;
            }
            if (names.indexOf(sign) >= 0) {
                return values[names.indexOf(sign)];
            }
            int v = sign - '0';
            while (next("0123456789")) {
                v = v * 10 + text.charAt(i++) - '0';
            }
            return v;
        }
    }

    State s = new State();
    State image;
    int images;
    final int[] told = new int[6];
    final int[][] sheets = new int[4][];
    final int[] bits = new int[4];
    List<Integer> trace = new ArrayList<>();

    private static final int BEYOND = 1;
    private static final int NONE = 2;
    private static final int STATE = 3;
    private static final int FULL = 4;
    private static final int KIND = 5;

    private int low(int k) {
        told[k]++;
        return -1000000000 - k;
    }

    private static boolean in(int v, int from, int to) {
        return from <= v && v <= to;
    }

    private boolean kid(int c) {
        return in(c, 0, s.kids.size() - 1);
    }

    private static int bitsOf(Iterable<Integer> set) {
        int bits = 0;
        for (int n : set) {
            bits += 1 << n;
        }
        return bits;
    }

    int thing(int cell, int marks) {
        if (!in(cell, 0, 11) || !in(marks, 0, 63)) {
            return low(BEYOND);
        }
        if (s.things.size() == 8) {
            return low(FULL);
        }
        s.things.add(new Thing(cell, marks));
        return s.things.size() - 1;
    }

    int ofThing(int thing, int what) {
        if (!in(thing, 0, s.things.size() - 1) || !in(what, 0, 1)) {
            return low(BEYOND);
        }
        Thing t = s.things.get(thing);
        return what == 0 ? t.cell : t.marks;
    }

    int shift(int thing, int what, int v) {
        if (!in(thing, 0, s.things.size() - 1) || !in(what, 0, 1) || !in(v, 0, what == 0 ? 11 : 63)) {
            return low(BEYOND);
        }
        int was = ofThing(thing, what);
        Thing t = s.things.get(thing);
        s.things.set(thing, what == 0 ? new Thing(v, t.marks) : new Thing(t.cell, v));
        return was;
    }

    int child(int km, int cell) {
        if (!in(km, 0, 69) || !in(cell, 0, 11)) {
            return low(BEYOND);
        }
        if (s.kids.size() == 7) {
            return low(FULL);
        }
        Kid k = new Kid();
        k.kind = km / 10;
        k.m = km % 10;
        k.at = cell;
        s.kids.add(k);
        return s.kids.size() - 1;
    }

    int ofChild(int child, int what) {
        if (!kid(child) || !in(what, 0, 6)) {
            return low(BEYOND);
        }
        Kid k = s.kids.get(child);
        return new int[] {k.kind, k.m, k.at, k.had, k.safe, s.pace(k), s.far(k)}[what];
    }

    int change(int child, int what, int v) {
        if (!kid(child) || !in(what, 0, 2) || !in(v, 0, what == 0 ? 11 : 999)) {
            return low(BEYOND);
        }
        int was = ofChild(child, what + 2);
        Kid k = s.kids.get(child);
        if (what == 0) {
            k.at = v;
        } else if (what == 1) {
            k.had = v;
        } else {
            k.safe = v;
        }
        return was;
    }

    int it(int child) {
        if (child != -1 && !kid(child)) {
            return low(BEYOND);
        }
        int was = s.it;
        s.it = child;
        return was;
    }

    int become(int child, int km) {
        if (!kid(child) || !in(km, 0, 69)) {
            return low(BEYOND);
        }
        Kid k = s.kids.get(child);
        int was = k.kind;
        k.kind = km / 10;
        k.m = km % 10;
        return was;
    }

    int as(int child, int kind) {
        if (!kid(child) || !in(kind, 0, 6)) {
            return low(BEYOND);
        }
        Class<?>[] kinds = {Voice.Child.class, Voice.Boy.class, Voice.Girl.class, Voice.Broker.class, Voice.Stuck.class,
            Voice.Sister.class, Voice.Clerk.class};
        Kid k = s.kids.get(child);
        return kinds[kind].isAssignableFrom(kinds[k.kind]) ? k.m : low(KIND);
    }

    int feed(long word, int n) {
        if (!in(n, 1, 8)) {
            return low(BEYOND);
        }
        if (s.tape.length() + n > 50) {
            return low(FULL);
        }
        for (int i = 0; i < n; i++) {
            s.tape += (char) (word >> (8 * i) & 0xff);
        }
        return s.tape.length();
    }

    int text(int use) {
        if (!in(use, 0, 1)) {
            return low(BEYOND);
        }
        String text = s.tape;
        s.tape = "";
        // Grammar knows the NAMES of USE 0 alone.
        String names = "dbm";
        String asUse0 = text;
        if (use == 1) {
            StringBuilder all = new StringBuilder();
            for (char sign : text.toCharArray()) {
                int name = "nxb".indexOf(sign);
                all.append(name >= 0 ? names.charAt(name) : names.indexOf(sign) >= 0 ? '?' : sign);
            }
            asUse0 = all.toString();
        }
        int answer = Grammar.answer(asUse0);
        if (answer == 1) {
            s.texts[use] = text;
        }
        return answer;
    }

    int law(int use, int a, int b, int c) {
        return in(use, 0, 1) ? s.law(use, a, b, c) : low(BEYOND);
    }

    int call(int mark, int t) {
        if (!in(mark, 0, 5) || !in(t, 0, 9)) {
            return low(BEYOND);
        }
        if (s.calls == 9999) {
            return low(STATE);
        }
        return bitsOf(s.play(mark, t));
    }

    int loose(int n) {
        if (!in(n, 1, 40)) {
            return low(BEYOND);
        }
        if (s.calls + n > 9999) {
            return low(STATE);
        }
        int times = 0;
        for (int i = 0; i < n; i++) {
            s.z = s.z * 1103515245 + 12345;
            int mark = (s.z >>> 8) % 6;
            s.z = s.z * 1103515245 + 12345;
            times += s.play(mark, (s.z >>> 8) % 5).size();
        }
        return times;
    }

    int hadBy(int mark, int t) {
        return in(mark, 0, 5) && in(t, 0, 9) ? bitsOf(s.had(mark, t)) : low(BEYOND);
    }

    int runsTo(int child, int mark, int t) {
        if (!kid(child) || !in(mark, 0, 5) || !in(t, 0, 9)) {
            return low(BEYOND);
        }
        State would = s.copy();
        would.play(mark, t);
        return would.kids.get(child).at;
    }

    /** The least of the numbers, and of several the first; what 0 where, 1 the number. */
    private static int least(int[] numbers, int what) {
        int least = Arrays.stream(numbers).min().orElse(0);
        return what == 1 ? least : IntStream.range(0, numbers.length).filter(i -> numbers[i] == least).findFirst().orElse(-1);
    }

    private int[] sizes(int t) {
        return IntStream.range(0, 6).map(mark -> s.had(mark, t).size()).toArray();
    }

    int worst(int t, int what) {
        if (!in(t, 0, 9) || !in(what, 0, 1)) {
            return low(BEYOND);
        }
        int least = least(Arrays.stream(sizes(t)).map(n -> 7 - n).toArray(), what);
        return what == 0 ? least : 7 - least;
    }

    int best(int t, int what) {
        return in(t, 0, 9) && in(what, 0, 1) ? least(sizes(t), what) : low(BEYOND);
    }

    int stand(int child, int t, int what) {
        if (!kid(child) || !in(t, 0, 9) || !in(what, 0, 1)) {
            return low(BEYOND);
        }
        int[] had = new int[12];
        for (int cell = 0; cell < 12; cell++) {
            State would = s.copy();
            would.kids.get(child).at = cell;
            for (int mark = 0; mark < 6; mark++) {
                had[cell] += would.had(mark, t).contains(child) ? 1 : 0;
            }
        }
        return least(had, what);
    }

    int steps(int mark) {
        if (!in(mark, 0, 5)) {
            return low(BEYOND);
        }
        for (int t = 0; t < 10; t++) {
            if (s.had(mark, t).isEmpty()) {
                return t;
            }
        }
        return low(NONE);
    }

    int take(int child, int mark, int t) {
        if (!kid(child) || !in(mark, 0, 5) || !in(t, 0, 9)) {
            return low(BEYOND);
        }
        for (int many = 0; many <= s.things.size(); many++) {
            for (int set = 0; set < 1 << s.things.size(); set++) {
                if (Integer.bitCount(set) == many) {
                    State would = s.copy();
                    for (int i = s.things.size() - 1; i >= 0; i--) {
                        if ((set >> i) % 2 == 1) {
                            would.things.remove(i);
                        }
                    }
                    if (would.had(mark, t).contains(child)) {
                        return set;
                    }
                }
            }
        }
        return low(NONE);
    }

    int lay(int mark, int t, int what) {
        if (!in(mark, 0, 5) || !in(t, 0, 9) || !in(what, 0, 1)) {
            return low(BEYOND);
        }
        if (s.things.size() == 8) {
            return low(FULL);
        }
        int[] had = new int[12];
        for (int cell = 0; cell < 12; cell++) {
            State would = s.copy();
            would.things.add(new Thing(cell, 1 << mark));
            had[cell] = would.had(mark, t).size();
        }
        return least(had, what);
    }

    int called(int children, int t) {
        if (!in(children, 0, (1 << s.kids.size()) - 1) || !in(t, 0, 9)) {
            return low(BEYOND);
        }
        TreeSet<Integer> marks = new TreeSet<>();
        for (int mark = 0; mark < 6; mark++) {
            if (bitsOf(s.had(mark, t)) == children) {
                marks.add(mark);
            }
        }
        return bitsOf(marks);
    }

    int parts(int t, int what) {
        if (!in(t, 0, 9) || !in(what, 0, 1)) {
            return low(BEYOND);
        }
        int[] differences = new int[6];
        for (int mark = 0; mark < 6; mark++) {
            State would = s.copy();
            would.kids.forEach(k -> k.had = k.safe = 0);
            would.play(mark, t);
            int had = would.kids.stream().mapToInt(k -> k.had).sum();
            int safe = would.kids.stream().mapToInt(k -> k.safe).sum();
            differences[mark] = Math.abs(had - safe);
        }
        return least(differences, what);
    }

    int never(int t) {
        if (!in(t, 0, 9)) {
            return low(BEYOND);
        }
        TreeSet<Integer> never = new TreeSet<>();
        for (int n = 0; n < s.kids.size(); n++) {
            int child = n;
            if (IntStream.range(0, 6).noneMatch(mark -> s.had(mark, t).contains(child))) {
                never.add(n);
            }
        }
        return bitsOf(never);
    }

    int series(int sheet, int t, int what) {
        if (!in(sheet, 0, 3) || !in(t, 0, 9) || !in(what, 0, 1)) {
            return low(BEYOND);
        }
        if (sheets[sheet] == null) {
            return low(NONE);
        }
        State would = s.copy();
        int times = 0;
        for (int number : sheets[sheet]) {
            int low = (number % 8 + 8) % 8;
            times += would.play(low >= 6 ? low - 6 : low, t).size();
        }
        return what == 0 ? would.it : times;
    }

    int odds(int child, int t, int part) {
        if (!kid(child) || !in(t, 0, 9) || !in(part, 0, 1)) {
            return low(BEYOND);
        }
        int safe = 0;
        for (int mark = 0; mark < 6; mark++) {
            safe += child != s.it && !s.had(mark, t).contains(child) ? 1 : 0;
        }
        for (int below = 1; below <= 6; below++) {
            if (safe * below % 6 == 0) {
                return part == 0 ? safe * below / 6 : below;
            }
        }
        return Integer.MIN_VALUE;
    }

    int seed(int v) {
        int was = s.z;
        s.z = v;
        return was;
    }

    int voice(int child, int act, int x) {
        if (!kid(child) || !in(act, 0, 3)) {
            return low(BEYOND);
        }
        Kid k = s.kids.get(child);
        Voice.Child voice = Voice.of(k.kind, child, k.m);
        int answer = voice.says(act, x);
        trace = voice.trace;
        return answer;
    }

    int trace(int i) {
        return in(i, 0, trace.size() - 1) ? trace.get(i) : low(NONE);
    }

    int sheet(int sheet, int bits, int n) {
        if (!in(sheet, 0, 3) || !List.of(0, 8, 16, 32).contains(bits)) {
            return low(BEYOND);
        }
        if (bits != 0 && n < 0) {
            return low(STATE);
        }
        if (bits != 0 && n > 40) {
            return low(BEYOND);
        }
        sheets[sheet] = bits == 0 ? null : new int[n];
        this.bits[sheet] = bits;
        return 1;
    }

    int put(int sheet, int i, int v) {
        if (!in(sheet, 0, 3)) {
            return low(BEYOND);
        }
        if (sheets[sheet] == null) {
            return low(NONE);
        }
        if (!in(i, 0, sheets[sheet].length - 1)) {
            return low(BEYOND);
        }
        sheets[sheet][i] = bits[sheet] == 32 ? v : Math.floorMod(v, 1 << bits[sheet]);
        return 1;
    }

    int move(int sheet, int i, int other, int j, int n) {
        if (!in(sheet, 0, 3) || !in(other, 0, 3)) {
            return low(BEYOND);
        }
        int[] from = sheets[sheet];
        int[] to = sheets[other];
        if (from == null || to == null) {
            return low(NONE);
        }
        if (bits[sheet] != bits[other]) {
            return low(KIND);
        }
        if (n < 0 || i < 0 || j < 0 || (long) i + n > from.length || (long) j + n > to.length) {
            return low(BEYOND);
        }
        int[] as = from.clone();
        for (int k = 0; k < n; k++) {
            to[j + k] = as[i + k];
        }
        return n;
    }

    int places(int sheet) {
        if (!in(sheet, 0, 3)) {
            return low(BEYOND);
        }
        if (sheets[sheet] == null) {
            return low(NONE);
        }
        int many = 0;
        for (int number : sheets[sheet]) {
            if (!in(number, 0, 11) || many == s.kids.size()) {
                break;
            }
            s.kids.get(many).at = number;
            many++;
        }
        return many;
    }

    int judge(int sheet) {
        if (!in(sheet, 0, 3)) {
            return low(BEYOND);
        }
        if (sheets[sheet] == null) {
            return low(NONE);
        }
        int[] safe = s.kids.stream().mapToInt(k -> k.safe).toArray();
        return Arrays.mismatch(safe, sheets[sheet]);
    }

    int image() {
        image = s.copy();
        return ++images;
    }

    int restore() {
        if (image == null) {
            return low(NONE);
        }
        s = image.copy();
        return s.calls;
    }

    int tell(int v) {
        if (s.waiting.size() == 20) {
            return low(FULL);
        }
        s.waiting.add(v);
        return s.waiting.size();
    }

    int check() {
        List<Integer> waiting = s.waiting;
        s.waiting = new ArrayList<>();
        for (int i = 0; i < waiting.size(); i++) {
            if (!kid(i) || s.kids.get(i).had != waiting.get(i)) {
                return i + 1;
            }
        }
        return 0;
    }

    int count(int what) {
        if (!in(what, 0, 9)) {
            return low(BEYOND);
        }
        int had = s.kids.stream().mapToInt(k -> k.had).sum();
        int safe = s.kids.stream().mapToInt(k -> k.safe).sum();
        return new int[] {s.things.size(), s.kids.size(), s.calls, s.it, had, safe, s.tape.length(), s.waiting.size(),
            Math.min(40, trace.size()), s.z}[what];
    }

    int told(int k) {
        return in(k, 1, 5) ? told[k] : low(BEYOND);
    }
}
