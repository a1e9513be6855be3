/** Promises 1 to 4 and 10 to 11, and of 5 to 9 what holds before and behind a find. */
public final class StateTest {
    private static final int[] STRANGE = {-2147483648, -3, -2, 1000, 2147483647};
    // Least and greatest of a to e, by kind; a kind's row is as long as its numbers are many.
    private static final int[][] LEAST = {
        {0, 0, -1, 0}, {0, 0, -1, 0}, {0, 0, 0, -1, 0}, {0, 0, 0, -1, 0}, {0, 0, -1, 0}, {0, 0, 0, -1, 0},
        {0, 0}, {0, 0}, {0, 0, 0}, {0, 0, 0}, {0, 1}};
    private static final int[][] GREATEST = {
        {3, 2, 3, 3}, {3, 2, 3, 2}, {3, 3, 2, 3, 3}, {3, 3, 2, 3, 3}, {3, 2, 3, 3}, {3, 3, 2, 3, 3},
        {3, 3}, {3, 3}, {3, 3, 3}, {3, 3, 3}, {3, 5}};
    private static int wrong = 0;

    public static void main(String[] args) {
        newObject();
        clear();
        model();
        addGoodNumbers();
        addBadNumbers();
        addMarks();
        addIgnoresOtherNumbers();
        addFull();
        addFullOfAccesses();
        badComesBeforeFull();
        foundAndGone();
        foundStays();
        badComesBeforeNone();
        instruction();
        count();
        System.out.println(wrong == 0 ? "StateTest: all as due" : "StateTest: " + wrong + " wrong");
        if (wrong != 0) {
            System.exit(1);
        }
    }

    private static void due(String what, long got, long want) {
        if (got != want) {
            wrong++;
            System.out.println(what + " answered " + got + ", due is " + want);
        }
    }

    private static int add(LitmusRunner x, int hart, int kind, int[] n) {
        int[] five = java.util.Arrays.copyOf(n, 5);
        return x.add(hart, kind, five[0], five[1], five[2], five[3], five[4]);
    }

    private static void newObject() {
        LitmusRunner x = new LitmusRunner();
        due("new: count(0)", x.count(0), 0);
        due("new: count(1)", x.count(1), 0);
        due("new: count(2)", x.count(2), 0);
        due("new: count(3)", x.count(3), LitmusRunner.NONE);
        due("new: count(4)", x.count(4), 0);
        due("new: count(5)", x.count(5), LitmusRunner.NONE);
        nothingIsFound("new", x);
        for (int h = 0; h < 4; h++) {
            due("new: instruction", x.instruction(h, 0, 0), LitmusRunner.NONE);
        }
    }

    private static void nothingIsFound(String when, LitmusRunner x) {
        due(when + ": outcome(0)", x.outcome(0), LitmusRunner.NONE);
        due(when + ": with", x.with(0, 0), LitmusRunner.NONE);
        due(when + ": both", x.both(0, 0, 18, 3), LitmusRunner.NONE);
        due(when + ": is", x.is(0), LitmusRunner.NONE);
        due(when + ": count(3)", x.count(3), LitmusRunner.NONE);
        due(when + ": count(5)", x.count(5), LitmusRunner.NONE);
    }

    private static void clear() {
        LitmusRunner x = new LitmusRunner();
        due("clear of nothing", x.clear(), 0);
        x.model(2);
        for (int h = 0; h < 4; h++) {
            due("add", x.add(h, 0, 0, 0, -1, 0, 0), 0);
            due("add", x.add(h, 7, 1, 2, 0, 0, 0), 1);
        }
        due("find", x.find(), 1);
        due("clear", x.clear(), 8);
        due("the MODEL stays", x.count(4), 2);
        nothingIsFound("cleared", x);
        for (int what = 0; what < 3; what++) {
            due("cleared: count(" + what + ")", x.count(what), 0);
        }
        for (int h = 0; h < 4; h++) {
            due("cleared: instruction", x.instruction(h, 0, 0), LitmusRunner.NONE);
            due("add anew", x.add(h, 0, 0, 0, -1, 0, 0), 0);
        }
        due("clear", x.clear(), 4);
        due("find of nothing", x.find(), 1);
        due("clear", x.clear(), 0);
        nothingIsFound("cleared, empty before", x);
    }

    private static void model() {
        LitmusRunner x = new LitmusRunner();
        due("model(2)", x.model(2), 0);
        due("model(1)", x.model(1), 2);
        due("model(3)", x.model(3), LitmusRunner.BAD);
        due("model(-1)", x.model(-1), LitmusRunner.BAD);
        for (int m : STRANGE) {
            due("model(" + m + ")", x.model(m), LitmusRunner.BAD);
        }
        due("model(0)", x.model(0), 1);
        due("model(0)", x.model(0), 0);
    }

    private static void addGoodNumbers() {
        for (int kind = 0; kind <= 10; kind++) {
            LitmusRunner x = new LitmusRunner();
            due("least of kind " + kind, add(x, 0, kind, LEAST[kind]), 0);
            due("greatest of kind " + kind, add(x, 3, kind, GREATEST[kind]), 0);
            due("count", x.count(0), 2);
            numbersAre(x, 0, 0, kind, LEAST[kind]);
            numbersAre(x, 3, 0, kind, GREATEST[kind]);
        }
    }

    private static void numbersAre(LitmusRunner x, int hart, int i, int kind, int[] n) {
        due("kind", x.instruction(hart, i, 0), kind);
        for (int k = 1; k <= 5; k++) {
            due("number " + k + " of kind " + kind, x.instruction(hart, i, k), k <= n.length ? n[k - 1] : 0);
        }
    }

    private static void addBadNumbers() {
        LitmusRunner x = new LitmusRunner();
        for (int kind = 0; kind <= 10; kind++) {
            for (int k = 0; k < LEAST[kind].length; k++) {
                int[] n = LEAST[kind].clone();
                n[k] = LEAST[kind][k] - 1;
                due("too small, kind " + kind + ", number " + k, add(x, 0, kind, n), LitmusRunner.BAD);
                n[k] = GREATEST[kind][k] + 1;
                due("too great, kind " + kind + ", number " + k, add(x, 0, kind, n), LitmusRunner.BAD);
                for (int strange : STRANGE) {
                    n[k] = strange;
                    due("strange, kind " + kind + ", number " + k, add(x, 0, kind, n), LitmusRunner.BAD);
                }
            }
            due("hart -1", add(x, -1, kind, LEAST[kind]), LitmusRunner.BAD);
            due("hart 4", add(x, 4, kind, LEAST[kind]), LitmusRunner.BAD);
        }
        due("kind -1", x.add(0, -1, 0, 0, 0, 0, 0), LitmusRunner.BAD);
        due("kind 11", x.add(0, 11, 0, 1, 0, 0, 0), LitmusRunner.BAD);
        for (int strange : STRANGE) {
            due("hart " + strange, x.add(strange, 7, 0, 0, 0, 0, 0), LitmusRunner.BAD);
            due("kind " + strange, x.add(0, strange, 0, 1, 0, 0, 0), LitmusRunner.BAD);
        }
        due("nothing was added", x.count(0), 0);
        due("no access was added", x.count(1), 0);
    }

    private static void addMarks() {
        boolean[][] good = {
            {true, true, false, true}, {true, false, true, false}, {true, true, true, true},
            {true, true, true, true}, {true, true, false, true}, {true, true, true, true}};
        for (int kind = 0; kind <= 5; kind++) {
            for (int marks = 0; marks <= 3; marks++) {
                LitmusRunner x = new LitmusRunner();
                int[] n = LEAST[kind].clone();
                n[n.length - 1] = marks;
                due("MARKS " + marks + " of kind " + kind, add(x, 1, kind, n), good[kind][marks] ? 0 : LitmusRunner.BAD);
            }
        }
    }

    private static void addIgnoresOtherNumbers() {
        for (int kind = 0; kind <= 10; kind++) {
            LitmusRunner x = new LitmusRunner();
            int[] n = {-77, -77, -77, -77, -77};
            System.arraycopy(GREATEST[kind], 0, n, 0, GREATEST[kind].length);
            due("other numbers of kind " + kind, add(x, 2, kind, n), 0);
            numbersAre(x, 2, 0, kind, GREATEST[kind]);
        }
    }

    private static void addFull() {
        LitmusRunner x = new LitmusRunner();
        for (int h = 0; h < 4; h++) {
            for (int i = 0; i < 6; i++) {
                due("add", x.add(h, 7, 0, 1, 0, 0, 0), i);
            }
            due("a seventh", x.add(h, 7, 0, 1, 0, 0, 0), LitmusRunner.FULL);
        }
        due("count(0)", x.count(0), 24);
        due("find", x.find(), 1);
        due("clear", x.clear(), 24);
    }

    private static void addFullOfAccesses() {
        int[] readers = {0, 2, 3, 4};
        for (int last : readers) {
            LitmusRunner x = new LitmusRunner();
            for (int h = 0; h < 4; h++) {
                due("a reader", add(x, h, readers[h], LEAST[readers[h]]), 0);
            }
            due("a fifth reader", add(x, 0, last, LEAST[last]), LitmusRunner.FULL);
            due("a store", add(x, 0, 1, LEAST[1]), 1);
            due("a conditional", add(x, 1, 5, LEAST[5]), 1);
            due("a seventh access", add(x, 0, 1, LEAST[1]), LitmusRunner.FULL);
            due("a seventh access", add(x, 2, 5, LEAST[5]), LitmusRunner.FULL);
            due("a fence", add(x, 0, 6, LEAST[6]), 2);
            due("count(0)", x.count(0), 7);
            due("count(1)", x.count(1), 6);
            due("count(2)", x.count(2), 4);
        }
        LitmusRunner y = new LitmusRunner();
        for (int i = 0; i < 6; i++) {
            due("a writer", add(y, i % 4, i % 2 == 0 ? 1 : 5, LEAST[i % 2 == 0 ? 1 : 5]), i / 4);
        }
        due("a seventh, which reads", add(y, 0, 0, LEAST[0]), LitmusRunner.FULL);
        due("count(1)", y.count(1), 6);
        due("count(2)", y.count(2), 0);
    }

    private static void badComesBeforeFull() {
        LitmusRunner x = new LitmusRunner();
        for (int i = 0; i < 6; i++) {
            x.add(0, 1, 0, 0, -1, 0, 0);
        }
        due("FULL", x.add(0, 1, 0, 0, -1, 0, 0), LitmusRunner.FULL);
        due("BAD though full", x.add(0, 1, 0, 0, -1, 1, 0), LitmusRunner.BAD);
        due("BAD though full of accesses", x.add(1, 0, 4, 0, -1, 0, 0), LitmusRunner.BAD);
    }

    private static LitmusRunner foundOne() {
        LitmusRunner x = new LitmusRunner();
        x.add(0, 7, 0, 3, 0, 0, 0);
        due("find", x.find(), 1);
        due("outcome(0)", x.outcome(0), 3);
        return x;
    }

    private static void foundAndGone() {
        LitmusRunner x = foundOne();
        x.add(0, 7, 0, 1, 0, 0, 0);
        nothingIsFound("behind add", x);
        x = foundOne();
        x.model(1);
        nothingIsFound("behind model", x);
        x = foundOne();
        x.model(0);
        nothingIsFound("behind the same model", x);
        x = foundOne();
        x.clear();
        nothingIsFound("behind clear", x);
        due("find anew", x.find(), 1);
        due("outcome(0)", x.outcome(0), 0);
    }

    private static void foundStays() {
        LitmusRunner x = foundOne();
        x.model(3);
        x.model(-1);
        x.add(4, 7, 0, 1, 0, 0, 0);
        x.add(0, 7, 0, 4, 0, 0, 0);
        due("stays behind BAD", x.count(3), 1);
        due("outcome(0)", x.outcome(0), 3);
        due("find again", x.find(), 1);
        for (int i = 1; i < 6; i++) {
            x.add(0, 7, 1, 1, 0, 0, 0);
        }
        x.find();
        due("FULL", x.add(0, 7, 0, 1, 0, 0, 0), LitmusRunner.FULL);
        due("stays behind FULL", x.count(5), 1);
        due("outcome(0)", x.outcome(0), 7);
        due("outcome(1)", x.outcome(1), LitmusRunner.NONE);
        due("outcome(-1)", x.outcome(-1), LitmusRunner.NONE);
        due("outcome(least)", x.outcome(-2147483648), LitmusRunner.NONE);
        due("outcome(greatest)", x.outcome(2147483647), LitmusRunner.NONE);
        due("is(7)", x.is(7), 1);
        due("is(6)", x.is(6), 0);
        due("is(8)", x.is(8), 0);
        due("is(-1)", x.is(-1), 0);
        due("is(7 + 2^32)", x.is(7 + (1L << 32)), 0);
        due("is(7 - 2^63)", x.is(7 + (1L << 63)), 0);
    }

    private static void badComesBeforeNone() {
        LitmusRunner x = new LitmusRunner();
        for (int round = 0; round < 2; round++) {
            int[] whats = {-1, 19, -2147483648, 2147483647};
            int[] values = {-1, 4, -2147483648, 2147483647};
            for (int what : whats) {
                due("with(" + what + ", 0)", x.with(what, 0), LitmusRunner.BAD);
                due("both(" + what + ", 0, 0, 0)", x.both(what, 0, 0, 0), LitmusRunner.BAD);
                due("both(0, 0, " + what + ", 0)", x.both(0, 0, what, 0), LitmusRunner.BAD);
            }
            for (int value : values) {
                due("with(0, " + value + ")", x.with(0, value), LitmusRunner.BAD);
                due("both(0, " + value + ", 0, 0)", x.both(0, value, 0, 0), LitmusRunner.BAD);
                due("both(0, 0, 0, " + value + ")", x.both(0, 0, 0, value), LitmusRunner.BAD);
            }
            due("with(18, 0)", x.with(18, 0), round == 0 ? LitmusRunner.NONE : 1);
            due("both(0, 0, 18, 0)", x.both(0, 0, 18, 0), round == 0 ? LitmusRunner.NONE : 1);
            due("find", x.find(), 1);
        }
    }

    private static void instruction() {
        LitmusRunner x = new LitmusRunner();
        x.add(1, 5, 3, 2, 1, -1, 3);
        due("kind", x.instruction(1, 0, 0), 5);
        due("d", x.instruction(1, 0, 4), -1);
        due("e", x.instruction(1, 0, 5), 3);
        for (int k : new int[] {-1, 6, -2147483648, 2147483647}) {
            due("k = " + k, x.instruction(1, 0, k), LitmusRunner.BAD);
            due("none such, k = " + k, x.instruction(1, 1, k), LitmusRunner.NONE);
        }
        for (int strange : new int[] {-1, 4, 6, -2147483648, 2147483647}) {
            due("hart " + strange, x.instruction(strange, 0, 0), LitmusRunner.NONE);
            due("i " + strange, x.instruction(1, strange, 0), LitmusRunner.NONE);
        }
    }

    private static void count() {
        LitmusRunner x = new LitmusRunner();
        for (int kind = 0; kind <= 5; kind++) {
            add(x, kind / 2, kind, LEAST[kind]);
        }
        for (int kind = 6; kind <= 10; kind++) {
            add(x, 3, kind, LEAST[kind]);
        }
        x.model(1);
        due("count(0)", x.count(0), 11);
        due("count(1)", x.count(1), 6);
        due("count(2)", x.count(2), 4);
        due("count(3)", x.count(3), LitmusRunner.NONE);
        due("count(4)", x.count(4), 1);
        due("count(5)", x.count(5), LitmusRunner.NONE);
        for (int what : new int[] {-1, 6, -2147483648, 2147483647}) {
            due("count(" + what + ")", x.count(what), LitmusRunner.BAD);
        }
        // All that is written is 0; the CONDITIONAL may FAIL, or not.
        due("find", x.find(), 2);
        due("count(3)", x.count(3), 2);
        due("count(5)", x.count(5), 2);
    }
}
