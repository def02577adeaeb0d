import java.util.ArrayList;
import java.util.List;

/** The BODIES of the document as classes one under the other. */
final class Voice {
    private Voice() {
    }

    static Child of(int kind, int n, int m) {
        Child[] kinds = {new Child(), new Boy(), new Girl(), new Broker(), new Stuck(), new Sister(), new Clerk()};
        Child child = kinds[kind];
        child.n = n;
        child.m = m;
        return child;
    }

    static class Child {
        final List<Integer> trace = new ArrayList<>();
        int n;
        int m;

        int says(int act, int x) {
            trace.clear();
            return act == 0 ? shouts(x) : act == 1 ? runs(x) : act == 2 ? touches(x) : tells(x);
        }

        int shouts(int x) {
            trace.add(10);
            return x + n;
        }

        int runs(int x) {
            trace.add(11);
            return shouts(x) * 2;
        }

        int touches(int x) {
            trace.add(12);
            return x - m;
        }

        int tells(int x) {
            trace.add(13);
            return runs(x) ^ touches(x);
        }
    }

    static class Boy extends Child {
        @Override
        int shouts(int x) {
            trace.add(20);
            return super.shouts(x) * 3;
        }
    }

    static class Girl extends Child {
        @Override
        int runs(int x) {
            trace.add(30);
            return super.runs(x) - touches(1);
        }
    }

    static class Broker extends Child {
        @Override
        int touches(int x) {
            trace.add(40);
            return -super.touches(x);
        }
    }

    static final class Stuck extends Boy {
        @Override
        int tells(int x) {
            trace.add(50);
            return super.tells(x) - shouts(2);
        }
    }

    static final class Sister extends Girl {
        @Override
        int runs(int x) {
            trace.add(60);
            return super.runs(x + 1);
        }
    }

    static final class Clerk extends Broker {
        @Override
        int touches(int x) {
            trace.add(70);
            return super.touches(x) ^ n;
        }

        @Override
        int tells(int x) {
            trace.add(71);
            return runs(x) - super.tells(x);
        }
    }
}
