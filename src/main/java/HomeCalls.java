import java.util.Arrays;

/** The street of ../shared/DOC.md: THINGS, CHILDREN, and the CALLS by which some are HAD. */
public final class HomeCalls {
    private static final int LOW = -1000000000;
    private static final int BEYOND = 1;
    private static final int NONE = 2;
    private static final int STATE = 3;
    private static final int FULL = 4;
    private static final int KIND = 5;
    private static final int ERRORS = 5;

    private static final int CELLS = 12;
    private static final int MARKS = 6;
    private static final int MARK_SETS = 64;
    private static final int MOST_THINGS = 8;
    private static final int MOST_CHILDREN = 7;
    private static final int MOST_STEPS = 9;
    private static final int MOST_TIMES = 999;
    private static final int MOST_CALLS = 9999;
    private static final int MOST_GAMES = 40;
    private static final int MOST_BYTES = 50;
    private static final int MOST_WAITING = 20;
    private static final int NOBODY = -1;

    private static final int CHILD = 0;
    private static final int BOY = 1;
    private static final int GIRL = 2;
    private static final int BROKER = 3;
    private static final int STUCK = 4;
    private static final int SISTER = 5;
    private static final int CLERK = 6;
    private static final int KINDS = 7;
    /** Sets of KINDS (each KIND and those above it), as a set needs no walk upwards. */
    private static final int[] IS = {0b1, 0b11, 0b101, 0b1001, 0b10011, 0b100101, 0b1001001};

    private static final int KNOWS = 0;
    private static final int HOLDS = 1;
    private static final int USES = 2;

    /** Aims of one search for a mark, in which the least score wins. */
    private static final int FOR_MOST = 0;
    private static final int FOR_FEWEST = 1;
    private static final int FOR_ALIKE = 2;

    private static final int SHEETS = 4;
    private static final int MOST_NUMBERS = 40;

    private final Street now = new Street();
    private final Street kept = new Street();
    /** Where what would be is tried out; a copy, so that now stays as it is. */
    private final Street thought = new Street();
    private final Reader reader = new Reader();
    private final Speaker speaker = new Speaker();
    private final Sheet[] sheets = {new Sheet(), new Sheet(), new Sheet(), new Sheet()};
    private final int[] errors = new int[ERRORS + 1];
    private int images;

    public HomeCalls() {
    }

    // ---- things, children

    public int thing(int cell, int marks) {
        if (!isBelow(cell, CELLS) || !isBelow(marks, MARK_SETS)) {
            return error(BEYOND);
        }
        if (now.things >= MOST_THINGS) {
            return error(FULL);
        }
        return now.addThing(cell, marks);
    }

    public int ofThing(int thing, int what) {
        if (!isBelow(thing, now.things) || !isBelow(what, 2)) {
            return error(BEYOND);
        }
        return now.rowOfThings(what)[thing];
    }

    public int shift(int thing, int what, int v) {
        if (!isBelow(thing, now.things) || !isBelow(what, 2)) {
            return error(BEYOND);
        }
        if (!isBelow(v, what == 0 ? CELLS : MARK_SETS)) {
            return error(BEYOND);
        }
        return replace(now.rowOfThings(what), thing, v);
    }

    public int child(int km, int cell) {
        if (!isBelow(km, 10 * KINDS) || !isBelow(cell, CELLS)) {
            return error(BEYOND);
        }
        if (now.children >= MOST_CHILDREN) {
            return error(FULL);
        }
        return now.addChild(km, cell);
    }

    public int ofChild(int child, int what) {
        if (!isChild(child)) {
            return error(BEYOND);
        }
        switch (what) {
            case 0:
                return now.kinds[child];
            case 1:
                return now.numbers[child];
            case 2:
                return now.at[child];
            case 3:
                return now.had[child];
            case 4:
                return now.safe[child];
            case 5:
                return now.pace(child);
            case 6:
                return now.far(child);
            default:
                return error(BEYOND);
        }
    }

    public int change(int child, int what, int v) {
        if (!isChild(child) || !isBelow(what, 3)) {
            return error(BEYOND);
        }
        if (!isBelow(v, what == 0 ? CELLS : MOST_TIMES + 1)) {
            return error(BEYOND);
        }
        return replace(what == 0 ? now.at : what == 1 ? now.had : now.safe, child, v);
    }

    public int it(int child) {
        if (child != NOBODY && !isChild(child)) {
            return error(BEYOND);
        }
        int was = now.it;
        now.it = child;
        return was;
    }

    public int become(int child, int km) {
        if (!isChild(child) || !isBelow(km, 10 * KINDS)) {
            return error(BEYOND);
        }
        now.numbers[child] = km % 10;
        return replace(now.kinds, child, km / 10);
    }

    public int as(int child, int kind) {
        if (!isChild(child) || !isBelow(kind, KINDS)) {
            return error(BEYOND);
        }
        if (!isIn(kind, IS[now.kinds[child]])) {
            return error(KIND);
        }
        return now.numbers[child];
    }

    // ---- texts

    public int feed(long word, int n) {
        if (n < 1 || n > 8) {
            return error(BEYOND);
        }
        if (now.bytes + n > MOST_BYTES) {
            return error(FULL);
        }
        return now.addBytes(word, n);
    }

    public int text(int use) {
        if (!isBelow(use, USES)) {
            return error(BEYOND);
        }
        int fault = reader.faultOf(now.tape, now.bytes, use);
        now.bytes = 0;
        if (fault != Reader.NO_FAULT) {
            return -10 - fault;
        }
        now.laws[use].adopt(reader.code, reader.size);
        return 1;
    }

    public int law(int use, int a, int b, int c) {
        if (!isBelow(use, USES)) {
            return error(BEYOND);
        }
        return now.laws[use].gives(a, b, c);
    }

    // ---- calls

    public int call(int mark, int t) {
        if (!isBelow(mark, MARKS) || !isSteps(t)) {
            return error(BEYOND);
        }
        if (now.calls >= MOST_CALLS) {
            return error(STATE);
        }
        return now.play(mark, t);
    }

    public int loose(int n) {
        if (n < 1 || n > MOST_GAMES) {
            return error(BEYOND);
        }
        if (now.calls + n > MOST_CALLS) {
            return error(STATE);
        }
        int times = 0;
        for (int game = 0; game < n; game++) {
            int mark = now.draw() % MARKS;
            int t = now.draw() % 5;
            times += Integer.bitCount(now.play(mark, t));
        }
        return times;
    }

    // ---- what would be

    public int hadBy(int mark, int t) {
        if (!isBelow(mark, MARKS) || !isSteps(t)) {
            return error(BEYOND);
        }
        return now.wouldBeHad(mark, t);
    }

    public int runsTo(int child, int mark, int t) {
        if (!isChild(child) || !isBelow(mark, MARKS) || !isSteps(t)) {
            return error(BEYOND);
        }
        return now.endOf(child, mark, t);
    }

    public int worst(int t, int what) {
        return markFor(FOR_MOST, t, what);
    }

    public int best(int t, int what) {
        return markFor(FOR_FEWEST, t, what);
    }

    public int stand(int child, int t, int what) {
        if (!isChild(child) || !isSteps(t) || !isBelow(what, 2)) {
            return error(BEYOND);
        }
        thought.copy(now);
        int where = 0;
        int fewest = MARKS + 1;
        for (int cell = 0; cell < CELLS; cell++) {
            thought.at[child] = cell;
            int many = thought.marksThatHave(child, t);
            if (many < fewest) {
                fewest = many;
                where = cell;
            }
        }
        return what == 0 ? where : fewest;
    }

    public int steps(int mark) {
        if (!isBelow(mark, MARKS)) {
            return error(BEYOND);
        }
        for (int t = 0; t <= MOST_STEPS; t++) {
            if (now.wouldBeHad(mark, t) == 0) {
                return t;
            }
        }
        return error(NONE);
    }

    public int take(int child, int mark, int t) {
        if (!isChild(child) || !isBelow(mark, MARKS) || !isSteps(t)) {
            return error(BEYOND);
        }
        thought.copy(now);
        int least = 0;
        int fewest = MOST_THINGS + 1;
        for (int set = 0; set < 1 << now.things; set++) {
            int many = Integer.bitCount(set);
            if (many < fewest && now.allHave(set, mark) && hadWithout(set, child, mark, t)) {
                fewest = many;
                least = set;
            }
        }
        return fewest > MOST_THINGS ? error(NONE) : least;
    }

    public int lay(int mark, int t, int what) {
        if (!isBelow(mark, MARKS) || !isSteps(t) || !isBelow(what, 2)) {
            return error(BEYOND);
        }
        if (now.things >= MOST_THINGS) {
            return error(FULL);
        }
        thought.copy(now);
        int laid = thought.addThing(0, 1 << mark);
        int where = 0;
        int fewest = MOST_CHILDREN + 1;
        for (int cell = 0; cell < CELLS; cell++) {
            thought.cells[laid] = cell;
            int many = Integer.bitCount(thought.wouldBeHad(mark, t));
            if (many < fewest) {
                fewest = many;
                where = cell;
            }
        }
        return what == 0 ? where : fewest;
    }

    public int called(int children, int t) {
        if (!isBelow(children, 1 << now.children) || !isSteps(t)) {
            return error(BEYOND);
        }
        int marks = 0;
        for (int mark = 0; mark < MARKS; mark++) {
            if (now.wouldBeHad(mark, t) == children) {
                marks |= 1 << mark;
            }
        }
        return marks;
    }

    public int parts(int t, int what) {
        return markFor(FOR_ALIKE, t, what);
    }

    public int never(int t) {
        if (!isSteps(t)) {
            return error(BEYOND);
        }
        int free = (1 << now.children) - 1;
        for (int mark = 0; mark < MARKS; mark++) {
            free &= ~now.wouldBeHad(mark, t);
        }
        return free;
    }

    public int series(int sheet, int t, int what) {
        if (!isBelow(sheet, SHEETS) || !isSteps(t) || !isBelow(what, 2)) {
            return error(BEYOND);
        }
        Sheet row = sheets[sheet];
        if (row.isMissing()) {
            return error(NONE);
        }
        thought.copy(now);
        int times = 0;
        for (int i = 0; i < row.size; i++) {
            int low = row.numbers[i] & 7;
            int mark = low < MARKS ? low : low - MARKS;
            times += Integer.bitCount(thought.play(mark, t));
        }
        return what == 0 ? thought.it : times;
    }

    public int odds(int child, int t, int part) {
        if (!isChild(child) || !isSteps(t) || !isBelow(part, 2)) {
            return error(BEYOND);
        }
        int safe = child == now.it ? 0 : MARKS - now.marksThatHave(child, t);
        int whole = part == 0 ? safe : MARKS;
        for (int divisor = MARKS; divisor > 1; divisor--) {
            if (safe % divisor == 0 && MARKS % divisor == 0) {
                return whole / divisor;
            }
        }
        return whole;
    }

    // ---- draws, voices, sheets, images, what is told

    public int seed(int v) {
        int was = now.z;
        now.z = v;
        return was;
    }

    public int voice(int child, int act, int x) {
        if (!isChild(child) || !isBelow(act, Speaker.ACTS)) {
            return error(BEYOND);
        }
        return speaker.answer(now.kinds[child], child, now.numbers[child], act, x);
    }

    public int trace(int i) {
        if (!isBelow(i, speaker.began)) {
            return error(NONE);
        }
        return speaker.bodies[i];
    }

    public int sheet(int sheet, int bits, int n) {
        if (!isBelow(sheet, SHEETS) || (bits != 0 && bits != 8 && bits != 16 && bits != 32)) {
            return error(BEYOND);
        }
        if (bits == 0) {
            sheets[sheet].begin(0, 0);
            return 1;
        }
        if (n < 0) {
            return error(STATE);
        }
        if (n > MOST_NUMBERS) {
            return error(BEYOND);
        }
        sheets[sheet].begin(bits, n);
        return 1;
    }

    public int put(int sheet, int i, int v) {
        if (!isBelow(sheet, SHEETS)) {
            return error(BEYOND);
        }
        Sheet row = sheets[sheet];
        if (row.isMissing()) {
            return error(NONE);
        }
        if (!isBelow(i, row.size)) {
            return error(BEYOND);
        }
        row.write(i, v);
        return 1;
    }

    public int move(int sheet, int i, int other, int j, int n) {
        if (!isBelow(sheet, SHEETS) || !isBelow(other, SHEETS)) {
            return error(BEYOND);
        }
        Sheet from = sheets[sheet];
        Sheet to = sheets[other];
        if (from.isMissing() || to.isMissing()) {
            return error(NONE);
        }
        if (from.bits != to.bits) {
            return error(KIND);
        }
        if (!from.hasRun(i, n) || !to.hasRun(j, n)) {
            return error(BEYOND);
        }
        System.arraycopy(from.numbers, i, to.numbers, j, n);
        return n;
    }

    public int places(int sheet) {
        if (!isBelow(sheet, SHEETS)) {
            return error(BEYOND);
        }
        Sheet row = sheets[sheet];
        if (row.isMissing()) {
            return error(NONE);
        }
        int most = Math.min(row.size, now.children);
        for (int i = 0; i < most; i++) {
            if (!isBelow(row.numbers[i], CELLS)) {
                return i;
            }
            now.at[i] = row.numbers[i];
        }
        return most;
    }

    public int judge(int sheet) {
        if (!isBelow(sheet, SHEETS)) {
            return error(BEYOND);
        }
        Sheet row = sheets[sheet];
        if (row.isMissing()) {
            return error(NONE);
        }
        int both = Math.min(row.size, now.children);
        for (int i = 0; i < both; i++) {
            if (row.numbers[i] != now.safe[i]) {
                return i;
            }
        }
        return row.size == now.children ? -1 : both;
    }

    public int image() {
        kept.copy(now);
        images++;
        return images;
    }

    public int restore() {
        if (images == 0) {
            return error(NONE);
        }
        now.copy(kept);
        return now.calls;
    }

    public int tell(int v) {
        if (now.waits >= MOST_WAITING) {
            return error(FULL);
        }
        now.waiting[now.waits] = v;
        now.waits++;
        return now.waits;
    }

    public int check() {
        int numbers = now.waits;
        now.waits = 0;
        for (int i = 0; i < numbers; i++) {
            if (i >= now.children || now.waiting[i] != now.had[i]) {
                return 1 + i;
            }
        }
        return 0;
    }

    public int count(int what) {
        switch (what) {
            case 0:
                return now.things;
            case 1:
                return now.children;
            case 2:
                return now.calls;
            case 3:
                return now.it;
            case 4:
                return now.sum(now.had);
            case 5:
                return now.sum(now.safe);
            case 6:
                return now.bytes;
            case 7:
                return now.waits;
            case 8:
                return speaker.began;
            case 9:
                return now.z;
            default:
                return error(BEYOND);
        }
    }

    public int told(int k) {
        if (k < 1 || k > ERRORS) {
            return error(BEYOND);
        }
        return errors[k];
    }

    // ---- what the acts share

    private int error(int k) {
        errors[k]++;
        return LOW - k;
    }

    private static boolean isBelow(int v, int end) {
        return v >= 0 && v < end;
    }

    private static boolean isIn(int member, int set) {
        return (set >> member & 1) == 1;
    }

    private static boolean isSteps(int t) {
        return isBelow(t, MOST_STEPS + 1);
    }

    private boolean isChild(int child) {
        return isBelow(child, now.children);
    }

    private static int replace(int[] row, int i, int v) {
        int was = row[i];
        row[i] = v;
        return was;
    }

    private int markFor(int aim, int t, int what) {
        if (!isSteps(t) || !isBelow(what, 2)) {
            return error(BEYOND);
        }
        int found = 0;
        int least = MOST_CHILDREN + 1;
        for (int mark = 0; mark < MARKS; mark++) {
            int score = scoreFor(aim, Integer.bitCount(now.wouldBeHad(mark, t)));
            if (score < least) {
                least = score;
                found = mark;
            }
        }
        return what == 0 ? found : Math.abs(least);
    }

    private int scoreFor(int aim, int had) {
        switch (aim) {
            case FOR_MOST:
                return -had;
            case FOR_ALIKE:
                return Math.abs(had - (now.runners() - had));
            default:
                return had;
        }
    }

    private boolean hadWithout(int set, int child, int mark, int t) {
        for (int i = 0; i < now.things; i++) {
            // A THING without MARKS counts for nothing in a CALL: it is as good as taken away.
            thought.marks[i] = isIn(i, set) ? 0 : now.marks[i];
        }
        return isIn(child, thought.wouldBeHad(mark, t));
    }

    /** All that an IMAGE keeps, and nothing else: one copy() serves image, restore and thought. */
    private static final class Street {
        final int[] cells = new int[MOST_THINGS];
        final int[] marks = new int[MOST_THINGS];
        int things;
        final int[] kinds = new int[MOST_CHILDREN];
        final int[] numbers = new int[MOST_CHILDREN];
        final int[] at = new int[MOST_CHILDREN];
        final int[] had = new int[MOST_CHILDREN];
        final int[] safe = new int[MOST_CHILDREN];
        int children;
        int it = NOBODY;
        int calls;
        int z = 1;
        final Law[] laws = {new Law(), new Law()};
        final int[] tape = new int[MOST_BYTES];
        int bytes;
        final int[] waiting = new int[MOST_WAITING];
        int waits;
        /** Made once and used by every CALL, as what a run makes is counted. */
        private final int[] ends = new int[MOST_CHILDREN];

        void copy(Street other) {
            copyRow(other.cells, cells);
            copyRow(other.marks, marks);
            things = other.things;
            copyRow(other.kinds, kinds);
            copyRow(other.numbers, numbers);
            copyRow(other.at, at);
            copyRow(other.had, had);
            copyRow(other.safe, safe);
            children = other.children;
            it = other.it;
            calls = other.calls;
            z = other.z;
            for (int use = 0; use < USES; use++) {
                laws[use].adopt(other.laws[use].code, other.laws[use].size);
            }
            copyRow(other.tape, tape);
            bytes = other.bytes;
            copyRow(other.waiting, waiting);
            waits = other.waits;
        }

        private static void copyRow(int[] from, int[] to) {
            System.arraycopy(from, 0, to, 0, Math.min(from.length, to.length));
        }

        int addThing(int cell, int markSet) {
            cells[things] = cell;
            marks[things] = markSet;
            things++;
            return things - 1;
        }

        int[] rowOfThings(int what) {
            return what == 0 ? cells : marks;
        }

        int addChild(int km, int cell) {
            kinds[children] = km / 10;
            numbers[children] = km % 10;
            at[children] = cell;
            children++;
            return children - 1;
        }

        int addBytes(long word, int n) {
            for (int i = 0; i < n; i++) {
                tape[bytes] = (int) (word >>> 8 * i & 255);
                bytes++;
            }
            return bytes;
        }

        int draw() {
            z = z * 1103515245 + 12345;
            return z >>> 8;
        }

        int pace(int child) {
            int m = numbers[child];
            int broker = calls % 2 == 0 ? 1 : 0;
            switch (kinds[child]) {
                case BOY:
                    return 1 + m % 2;
                case GIRL:
                    return 2;
                case BROKER:
                    return broker;
                case STUCK:
                    return 0;
                case SISTER:
                    return it == NOBODY ? 3 : 2;
                case CLERK:
                    return broker + m % 3;
                default:
                    return 1;
            }
        }

        int far(int child) {
            int m = numbers[child];
            switch (kinds[child]) {
                case BOY:
                case STUCK:
                    return 5;
                case GIRL:
                    return 6 - m % 3;
                case SISTER:
                    return 7 - m % 3;
                case BROKER:
                case CLERK:
                    return 2;
                default:
                    return 6;
            }
        }

        int marksThatHave(int child, int t) {
            int many = 0;
            for (int mark = 0; mark < MARKS; mark++) {
                if (isIn(child, wouldBeHad(mark, t))) {
                    many++;
                }
            }
            return many;
        }

        int wouldBeHad(int mark, int t) {
            for (int child = 0; child < children; child++) {
                ends[child] = endOf(child, mark, t);
            }
            int set = 0;
            for (int child = 0; child < children; child++) {
                if (child != it && !isHeld(ends[child], mark)) {
                    set |= 1 << child;
                }
            }
            return set;
        }

        int play(int mark, int t) {
            int set = wouldBeHad(mark, t);
            int next = NOBODY;
            for (int child = 0; child < children; child++) {
                at[child] = ends[child];
                if (isIn(child, set)) {
                    had[child] = Math.min(had[child] + 1, MOST_TIMES);
                    next = next == NOBODY ? child : next;
                } else if (child != it) {
                    safe[child] = Math.min(safe[child] + 1, MOST_TIMES);
                }
            }
            it = next;
            calls++;
            return set;
        }

        int endOf(int child, int mark, int t) {
            int goal = child == it ? -1 : goalOf(child, mark);
            if (goal < 0) {
                return at[child];
            }
            int up = Math.floorMod(cells[goal] - at[child], CELLS);
            int down = CELLS - up;
            int way = Math.min(Math.min(up, down), pace(child) * t);
            return Math.floorMod(up <= down ? at[child] + way : at[child] - way, CELLS);
        }

        private int goalOf(int child, int mark) {
            int goal = -1;
            int nearest = far(child) + 1;
            for (int i = 0; i < things; i++) {
                int off = cellsOff(at[child], cells[i]);
                if (isIn(mark, marks[i]) && off < nearest
                        && laws[KNOWS].gives(off, mark, numbers[child]) != 0) {
                    nearest = off;
                    goal = i;
                }
            }
            return goal;
        }

        private static int cellsOff(int a, int b) {
            int off = Math.abs(a - b);
            return Math.min(off, CELLS - off);
        }

        private boolean isHeld(int cell, int mark) {
            for (int i = 0; i < things; i++) {
                if (cells[i] == cell && isIn(mark, marks[i])) {
                    return laws[HOLDS].gives(crowdIn(cell), marks[i], mark) != 0;
                }
            }
            return false;
        }

        private int crowdIn(int cell) {
            int many = 0;
            for (int child = 0; child < children; child++) {
                if (child != it && ends[child] == cell) {
                    many++;
                }
            }
            return many;
        }

        int runners() {
            return it == NOBODY ? children : children - 1;
        }

        /** THINGS without the mark of a CALL don't count in it, so TAKE tries no set with one. */
        boolean allHave(int set, int mark) {
            for (int i = 0; i < things; i++) {
                if (isIn(i, set) && !isIn(mark, marks[i])) {
                    return false;
                }
            }
            return true;
        }

        int sum(int[] row) {
            int all = 0;
            for (int child = 0; child < children; child++) {
                all += row[child];
            }
            return all;
        }
    }

    /** A TEXT with each sign behind its sides, so that giving needs no recursion. */
    private static final class Law {
        /** Above every NUMBER of four digits, so that one int tells what stands there. */
        static final int NAME = 10000;
        static final int SIGN = 20000;

        final int[] code = new int[MOST_BYTES];
        /** 0: there is no TEXT. */
        int size;
        private final int[] stack = new int[MOST_BYTES];
        private int top;

        void adopt(int[] newCode, int newSize) {
            size = Math.min(newSize, Math.min(newCode.length, code.length));
            System.arraycopy(newCode, 0, code, 0, size);
        }

        int gives(int a, int b, int c) {
            if (size == 0) {
                return 1;
            }
            top = 0;
            for (int i = 0; i < size; i++) {
                int word = code[i];
                if (word < NAME) {
                    push(word);
                } else if (word < SIGN) {
                    push(word == NAME ? a : word == NAME + 1 ? b : c);
                } else if (word == SIGN + '!') {
                    push(pop() == 0 ? 1 : 0);
                } else {
                    int right = pop();
                    push(worked(word - SIGN, pop(), right));
                }
            }
            return Math.max(0, Math.min(1, pop()));
        }

        private void push(int v) {
            if (top < stack.length) {
                stack[top] = v;
                top++;
            }
        }

        private int pop() {
            if (top == 0) {
                return 0;
            }
            top--;
            return stack[top];
        }

        private static int worked(int sign, int left, int right) {
            switch (sign) {
                case '|':
                    return left != 0 || right != 0 ? 1 : 0;
                case '&':
                    return left != 0 && right != 0 ? 1 : 0;
                case '<':
                    return left < right ? 1 : 0;
                case '=':
                    return left == right ? 1 : 0;
                case '>':
                    return left > right ? 1 : 0;
                case '+':
                    return left + right;
                case '-':
                    return left - right;
                case '*':
                    return left * right;
                case '/':
                    return right == 0 ? 0 : left / right;
                default:
                    return right == 0 ? 0 : left % right;
            }
        }
    }

    /** Refuses each byte as it comes, so that the first refused is the FAULT. */
    private static final class Reader {
        static final int NO_FAULT = -1;
        private static final int NAMES = 3;
        private static final char[] NAMES_OF_USES = {'d', 'b', 'm', 'n', 'x', 'b'};
        private static final int MOST_OPEN = 5;
        private static final int MOST_DIGITS = 4;
        private static final int LEAST_RANK = 1;
        private static final int RANK_OF_COMPARING = 3;

        final int[] code = new int[MOST_BYTES];
        int size;
        /** Signs that wait for their right side, and the ( that are open. */
        private final int[] held = new int[MOST_BYTES];
        private int top;
        private int open;
        private int digits;
        private boolean wantsValue;

        int faultOf(int[] tape, int bytes, int use) {
            size = 0;
            top = 0;
            open = 0;
            digits = 0;
            wantsValue = true;
            int most = Math.min(bytes, tape.length);
            for (int i = 0; i < most; i++) {
                if (!goesOn(tape[i], use)) {
                    return i;
                }
            }
            return isWhole() ? NO_FAULT : most;
        }

        private boolean goesOn(int sign, int use) {
            if (sign >= '0' && sign <= '9') {
                return readDigit(sign - '0');
            }
            digits = 0;
            return wantsValue ? readStart(sign, use) : readNext(sign);
        }

        private boolean readDigit(int digit) {
            if (wantsValue) {
                emit(digit);
                wantsValue = false;
                digits = 1;
                return true;
            }
            if (digits == 0 || digits == MOST_DIGITS || size == 0) {
                return false;
            }
            code[size - 1] = code[size - 1] * 10 + digit;
            digits++;
            return true;
        }

        private boolean readStart(int sign, int use) {
            for (int i = 0; i < NAMES; i++) {
                if (sign == NAMES_OF_USES[NAMES * use + i]) {
                    emit(Law.NAME + i);
                    wantsValue = false;
                    return true;
                }
            }
            if ((sign != '!' && sign != '(') || open == MOST_OPEN) {
                return false;
            }
            hold(sign);
            open++;
            return true;
        }

        private boolean readNext(int sign) {
            closeNots();
            if (sign == ')') {
                return closeRound();
            }
            int rank = rankOf(sign);
            if (rank < LEAST_RANK) {
                return false;
            }
            if (rank == RANK_OF_COMPARING) {
                release(rank + 1);
                if (top > 0 && rankOf(held[top - 1]) == RANK_OF_COMPARING) {
                    return false;
                }
            } else {
                release(rank);
            }
            hold(sign);
            wantsValue = true;
            return true;
        }

        private boolean closeRound() {
            release(LEAST_RANK);
            if (top == 0) {
                return false;
            }
            top--;
            open--;
            return true;
        }

        private boolean isWhole() {
            if (wantsValue) {
                return false;
            }
            closeNots();
            release(LEAST_RANK);
            return top == 0;
        }

        /** A ! is open until its value ends, which only the byte behind a number shows. */
        private void closeNots() {
            for (; top > 0 && held[top - 1] == '!'; top--) {
                emit(Law.SIGN + '!');
                open--;
            }
        }

        private void release(int rank) {
            for (; top > 0 && rankOf(held[top - 1]) >= rank; top--) {
                emit(Law.SIGN + held[top - 1]);
            }
        }

        private void hold(int sign) {
            if (top < held.length) {
                held[top] = sign;
                top++;
            }
        }

        private void emit(int word) {
            if (size < code.length) {
                code[size] = word;
                size++;
            }
        }

        private static int rankOf(int sign) {
            switch (sign) {
                case '|':
                    return LEAST_RANK;
                case '&':
                    return 2;
                case '<':
                case '=':
                case '>':
                    return RANK_OF_COMPARING;
                case '+':
                case '-':
                    return 4;
                case '*':
                case '/':
                case '%':
                    return 5;
                default:
                    return 0;
            }
        }
    }

    /** One VOICE, and THE TRACE of the latest. */
    private static final class Speaker {
        static final int ACTS = 4;
        private static final int SHOUTS = 0;
        private static final int RUNS = 1;
        private static final int TOUCHES = 2;
        private static final int TELLS = 3;
        /** Far above what the KINDS can open; it only bounds the recursion. */
        private static final int DEEPEST = 40;
        /** A row for each KIND; where it lacks a BODY, that of the next KIND above stands. */
        private static final int[] BODIES = {
            10, 11, 12, 13,
            20, 11, 12, 13,
            10, 30, 12, 13,
            10, 11, 40, 13,
            20, 11, 12, 50,
            10, 60, 12, 13,
            10, 11, 70, 71,
        };

        final int[] bodies = new int[40];
        int began;
        private int kind;
        private int n;
        private int m;

        int answer(int ofKind, int number, int mOfChild, int act, int x) {
            began = 0;
            kind = ofKind;
            n = number;
            m = mOfChild;
            return speak(kind, act, x, 0);
        }

        /** From kind where a BODY says shouts(..); from the KIND above it for super.shouts(..). */
        private int speak(int from, int act, int x, int depth) {
            if (depth > DEEPEST) {
                return 0;
            }
            int body = BODIES[ACTS * from + act];
            note(body);
            int deeper = depth + 1;
            switch (body) {
                case 10:
                    return x + n;
                case 11:
                    return speak(kind, SHOUTS, x, deeper) * 2;
                case 12:
                    return x - m;
                case 13:
                    return speak(kind, RUNS, x, deeper) ^ speak(kind, TOUCHES, x, deeper);
                case 20:
                    return speak(CHILD, SHOUTS, x, deeper) * 3;
                case 30:
                    return speak(CHILD, RUNS, x, deeper) - speak(kind, TOUCHES, 1, deeper);
                case 40:
                    return -speak(CHILD, TOUCHES, x, deeper);
                case 50:
                    return speak(BOY, TELLS, x, deeper) - speak(kind, SHOUTS, 2, deeper);
                case 60:
                    return speak(GIRL, RUNS, x + 1, deeper);
                case 70:
                    return speak(BROKER, TOUCHES, x, deeper) ^ n;
                case 71:
                    return speak(kind, RUNS, x, deeper) - speak(BROKER, TELLS, x, deeper);
                default:
                    return 0;
            }
        }

        private void note(int body) {
            if (began < bodies.length) {
                bodies[began] = body;
                began++;
            }
        }
    }

    /** Its row is always the longest, so that a new SHEET makes nothing. */
    private static final class Sheet {
        final int[] numbers = new int[MOST_NUMBERS];
        int size;
        /** 0: it is missing. */
        int bits;

        boolean isMissing() {
            return bits == 0;
        }

        void begin(int newBits, int newSize) {
            Arrays.fill(numbers, 0);
            bits = newBits;
            size = newSize;
        }

        /** The lowest bits without a sign: the document names none. */
        void write(int i, int v) {
            numbers[i] = bits == 8 ? v & 0xFF : bits == 16 ? v & 0xFFFF : v;
        }

        /** Asked by what is left behind i: the sum of i and n could wrap. */
        boolean hasRun(int i, int n) {
            return i >= 0 && n >= 0 && i <= size && n <= size - i;
        }
    }
}
