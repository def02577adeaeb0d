/** All promises: long runs of calls, drawn, against the Model. */
public final class ModelTest {
    private static final int RUNS = 200;
    private static final int CALLS = 512;

    private int z;
    private HomeCalls x;
    private Model model;
    private String call;
    private String texts = "";

    private ModelTest(int seed) {
        z = seed;
        x = new HomeCalls();
        model = new Model();
    }

    public static void main(String[] args) {
        for (int run = 0; run < RUNS; run++) {
            ModelTest test = new ModelTest(run * 7919 + 17);
            for (int i = 0; i < CALLS; i++) {
                int due = test.step(i);
                if (test.got != due) {
                    System.out.println("run " + run + ", call " + i + ": " + test.call + " answered " + test.got + ", due is " + due
                        + "; texts " + test.texts);
                    System.exit(1);
                }
            }
        }
        System.out.println(RUNS + " runs of " + CALLS + " calls are as the model has them");
    }

    private int got;

    /** A number from 0 to below end. */
    private int draw(int end) {
        z = z * 1664525 + 1013904223;
        return (int) ((z >>> 8) % (long) end);
    }

    /** Mostly a number below end; now and then one that isn't. */
    private int near(int end) {
        int odd = draw(60);
        if (odd == 0) {
            return -1;
        }
        if (odd == 1) {
            return end;
        }
        if (odd == 2) {
            return new int[] {Integer.MIN_VALUE, Integer.MAX_VALUE, -2, 1000}[draw(4)];
        }
        return draw(end < 1 ? 1 : end);
    }

    private int any() {
        int v = draw(3);
        return v == 0 ? draw(13) : v == 1 ? draw(1 << 16) - 30000 : draw(1 << 16) << 16 | draw(1 << 16);
    }

    private int kid() {
        return near(model.s.kids.size());
    }

    private int step(int i) {
        if (i < 30 && draw(2) == 0) {
            return draw(2) == 0 ? thing() : child();
        }
        switch (draw(12)) {
            case 0:
                return street();
            case 1:
                return laws();
            case 2:
            case 3:
                return calls();
            case 4:
            case 5:
            case 6:
            case 7:
                return thoughts();
            case 8:
                return voices();
            case 9:
                return sheets();
            default:
                return images();
        }
    }

    private int said(String name, int got, int due, long... args) {
        StringBuilder all = new StringBuilder(name);
        for (long arg : args) {
            all.append(' ').append(arg);
        }
        call = all.toString();
        this.got = got;
        return due;
    }

    private int thing() {
        int cell = near(12);
        int marks = near(64);
        return said("thing", x.thing(cell, marks), model.thing(cell, marks), cell, marks);
    }

    private int child() {
        int km = near(70);
        int cell = near(12);
        return said("child", x.child(km, cell), model.child(km, cell), km, cell);
    }

    private int street() {
        int kid = kid();
        int thing = near(model.s.things.size());
        switch (draw(9)) {
            case 0:
                return thing();
            case 1:
                return child();
            case 2: {
                int what = near(2);
                return said("ofThing", x.ofThing(thing, what), model.ofThing(thing, what), thing, what);
            }
            case 3: {
                int what = near(2);
                int v = near(what == 0 ? 12 : 64);
                return said("shift", x.shift(thing, what, v), model.shift(thing, what, v), thing, what, v);
            }
            case 4: {
                int what = near(7);
                return said("ofChild", x.ofChild(kid, what), model.ofChild(kid, what), kid, what);
            }
            case 5: {
                int what = near(3);
                int v = near(what == 0 ? 12 : draw(2) == 0 ? 1000 : 5);
                return said("change", x.change(kid, what, v), model.change(kid, what, v), kid, what, v);
            }
            case 6: {
                int it = draw(3) == 0 ? -1 : kid;
                return said("it", x.it(it), model.it(it), it);
            }
            case 7: {
                int km = near(70);
                return said("become", x.become(kid, km), model.become(kid, km), kid, km);
            }
            default: {
                int kind = near(7);
                return said("as", x.as(kid, kind), model.as(kid, kind), kid, kind);
            }
        }
    }

    private int laws() {
        switch (draw(8)) {
            case 0: {
                long word = (long) any() << 32 | any() & 0xffffffffL;
                int n = near(9);
                return said("feed", x.feed(word, n), model.feed(word, n), word, n);
            }
            case 1:
            case 2: {
                int use = near(2);
                int a = any();
                int b = any();
                int c = any();
                return said("law", x.law(use, a, b, c), model.law(use, a, b, c), use, a, b, c);
            }
            case 3: {
                int use = near(2);
                return said("text", x.text(use), model.text(use), use);
            }
            default:
                return wholeText();
        }
    }

    /** A text by the grammar, now and then with a sign that is off; most give 1 often, so that some are SAFE. */
    private int wholeText() {
        int use = draw(2);
        StringBuilder text = new StringBuilder();
        write(text, use == 0 ? "dbm" : "nxb", 0, 0);
        if (draw(3) == 0 && text.length() > 0) {
            text.setCharAt(draw(text.length()), "!()|&<=>+-*/%0123456789dbmnx?".charAt(draw(29)));
        }
        if (text.length() > 50) {
            text.setLength(50);
        }
        if (model.s.tape.length() > 0) {
            x.text(use);
            model.text(use);
        }
        feedBoth(text.toString());
        texts = texts + " " + use + ":" + text;
        return said("text " + text, x.text(use), model.text(use), use);
    }

    private void feedBoth(String text) {
        for (int from = 0; from < text.length(); from += 8) {
            int n = Math.min(8, text.length() - from);
            long word = 0;
            for (int i = n - 1; i >= 0; i--) {
                word = word << 8 | text.charAt(from + i);
            }
            x.feed(word, n);
            model.feed(word, n);
        }
    }

    private void write(StringBuilder text, String names, int level, int open) {
        String[] signs = {"|", "&", "<=>", "+-", "*/%"};
        if (level == 5) {
            writeValue(text, names, open);
            return;
        }
        write(text, names, level + 1, open);
        for (int more = draw(4) == 0 ? 1 : 0; more > 0; more = level != 2 && draw(4) == 0 ? 1 : 0) {
            text.append(signs[level].charAt(draw(signs[level].length())));
            write(text, names, level + 1, open);
        }
    }

    private void writeValue(StringBuilder text, String names, int open) {
        int which = draw(open < 5 && text.length() < 35 ? 8 : 6);
        if (which < 4) {
            text.append(names.charAt(draw(3)));
        } else if (which < 6) {
            text.append(draw(4) == 0 ? draw(10000) : draw(8));
        } else if (which == 6) {
            text.append('!');
            writeValue(text, names, open + 1);
        } else {
            text.append('(');
            write(text, names, 0, open + 1);
            text.append(')');
        }
    }

    private int calls() {
        if (draw(5) == 0) {
            int n = draw(10) == 0 ? near(41) : 1 + draw(3);
            return said("loose", x.loose(n), model.loose(n), n);
        }
        int mark = near(6);
        int t = near(10);
        return said("call", x.call(mark, t), model.call(mark, t), mark, t);
    }

    private int thoughts() {
        int kid = kid();
        int mark = near(6);
        int t = draw(2) == 0 ? near(4) : near(10);
        int what = near(2);
        switch (draw(13)) {
            case 0:
                return said("hadBy", x.hadBy(mark, t), model.hadBy(mark, t), mark, t);
            case 1:
                return said("runsTo", x.runsTo(kid, mark, t), model.runsTo(kid, mark, t), kid, mark, t);
            case 2:
                return said("worst", x.worst(t, what), model.worst(t, what), t, what);
            case 3:
                return said("best", x.best(t, what), model.best(t, what), t, what);
            case 4:
                return said("stand", x.stand(kid, t, what), model.stand(kid, t, what), kid, t, what);
            case 5:
                return said("steps", x.steps(mark), model.steps(mark), mark);
            case 6:
                return said("take", x.take(kid, mark, t), model.take(kid, mark, t), kid, mark, t);
            case 7:
                return said("lay", x.lay(mark, t, what), model.lay(mark, t, what), mark, t, what);
            case 8: {
                int children = draw(2) == 0 ? near(1 << model.s.kids.size()) : x.hadBy(draw(6), draw(10));
                return said("called", x.called(children, t), model.called(children, t), children, t);
            }
            case 9:
                return said("parts", x.parts(t, what), model.parts(t, what), t, what);
            case 10:
                return said("never", x.never(t), model.never(t), t);
            case 11: {
                int sheet = near(4);
                return said("series", x.series(sheet, t, what), model.series(sheet, t, what), sheet, t, what);
            }
            default:
                return said("odds", x.odds(kid, t, what), model.odds(kid, t, what), kid, t, what);
        }
    }

    private int voices() {
        switch (draw(4)) {
            case 0: {
                int v = any();
                return said("seed", x.seed(v), model.seed(v), v);
            }
            case 1: {
                int i = near(10);
                return said("trace", x.trace(i), model.trace(i), i);
            }
            default: {
                int kid = kid();
                int act = near(4);
                int v = any();
                return said("voice", x.voice(kid, act, v), model.voice(kid, act, v), kid, act, v);
            }
        }
    }

    private int sheets() {
        int sheet = near(4);
        switch (draw(8)) {
            case 0: {
                int bits = new int[] {8, 16, 32, 8, 16, 32, 0, 7}[draw(8)];
                int n = draw(2) == 0 ? near(41) : near(9);
                return said("sheet", x.sheet(sheet, bits, n), model.sheet(sheet, bits, n), sheet, bits, n);
            }
            case 1: {
                int other = near(4);
                int i = near(6);
                int j = near(6);
                int n = near(5);
                return said("move", x.move(sheet, i, other, j, n), model.move(sheet, i, other, j, n), sheet, i, other, j, n);
            }
            case 2:
                return said("places", x.places(sheet), model.places(sheet), sheet);
            case 3:
                return said("judge", x.judge(sheet), model.judge(sheet), sheet);
            case 4:
                return safeOnes(sheet);
            default: {
                int i = near(8);
                int v = draw(2) == 0 ? draw(13) : any();
                return said("put", x.put(sheet, i, v), model.put(sheet, i, v), sheet, i, v);
            }
        }
    }

    /** A SHEET of how often each was SAFE, or nearly so. */
    private int safeOnes(int sheet) {
        int bits = 8 << draw(3);
        int n = Math.max(0, model.s.kids.size() + (draw(4) == 0 ? draw(3) - 1 : 0));
        x.sheet(sheet, bits, n);
        model.sheet(sheet, bits, n);
        for (int i = 0; i < n; i++) {
            int v = (i < model.s.kids.size() ? model.s.kids.get(i).safe : 0) + (draw(20) == 0 ? 1 : 0);
            x.put(sheet, i, v);
            model.put(sheet, i, v);
        }
        return said("judge", x.judge(sheet), model.judge(sheet), sheet);
    }

    private int images() {
        switch (draw(12)) {
            case 0:
                return said("image", x.image(), model.image());
            case 1:
                return said("restore", x.restore(), model.restore());
            case 2:
            case 3: {
                int next = model.s.waiting.size();
                int v = draw(4) > 0 && next < model.s.kids.size() ? model.s.kids.get(next).had : draw(9);
                return said("tell", x.tell(v), model.tell(v), v);
            }
            case 4:
                return draw(3) == 0 ? said("check", x.check(), model.check()) : said("told", x.told(4), model.told(4));
            case 5:
            case 6: {
                int k = near(6);
                return said("told", x.told(k), model.told(k), k);
            }
            default: {
                int what = near(10);
                return said("count", x.count(what), model.count(what), what);
            }
        }
    }
}
