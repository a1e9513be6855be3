import java.util.HashSet;
import java.util.Set;
import java.util.function.Consumer;
import java.util.function.LongSupplier;

/** Tests with names, each on a new object: what is not as due is printed with its test's name. */
final class Cases {
    private static final Set<String> NAMES = new HashSet<>();
    private static String name = "";
    private static int wrong = 0;

    private Cases() {
    }

    static void test(String newName, Consumer<LitmusRunner> body) {
        name = newName;
        if (!NAMES.add(name)) {
            fail("two tests have this name");
        }
        try {
            body.accept(new LitmusRunner());
        } catch (RuntimeException | StackOverflowError e) {
            fail("it ended with " + e);
        }
    }

    static void due(String call, long got, long want) {
        if (got != want) {
            fail(call + " answered " + got + ", due is " + want);
        }
    }

    /** A call that is refused (or only asks), and that all is as it was behind it. */
    static void dueAndUnchanged(LitmusRunner x, String call, LongSupplier made, long want) {
        String before = stateOf(x);
        due(call, made.getAsLong(), want);
        String behind = stateOf(x);
        if (!behind.equals(before)) {
            fail(call + " made of " + before + " " + behind);
        }
    }

    /** All that an object tells of itself. */
    private static String stateOf(LitmusRunner x) {
        StringBuilder text = new StringBuilder();
        for (int what = 0; what <= 5; what++) {
            text.append(x.count(what)).append(' ');
        }
        for (int hart = 0; hart < 4; hart++) {
            text.append("hart ").append(hart).append(": ");
            for (int i = 0; i < 7 && x.instruction(hart, i, 0) != LitmusRunner.NONE; i++) {
                for (int k = 0; k <= 5; k++) {
                    text.append(x.instruction(hart, i, k)).append(k < 5 ? ' ' : ';');
                }
            }
        }
        text.append("outcomes ");
        int found = x.count(3);
        for (int i = 0; i < found; i++) {
            text.append(x.outcome(i)).append(' ');
        }
        return text.toString();
    }

    static void nothingIsFound(LitmusRunner x) {
        due("outcome(0)", x.outcome(0), LitmusRunner.NONE);
        due("with(0, 0)", x.with(0, 0), LitmusRunner.NONE);
        due("both(0, 0, 18, 3)", x.both(0, 0, 18, 3), LitmusRunner.NONE);
        due("is(0)", x.is(0), LitmusRunner.NONE);
        due("count(3)", x.count(3), LitmusRunner.NONE);
        due("count(5)", x.count(5), LitmusRunner.NONE);
    }

    private static void fail(String how) {
        wrong++;
        System.out.println("[" + name + "] " + how);
    }

    static int wrong() {
        return wrong;
    }

    static void finish(String file) {
        System.out.println(file + ": " + NAMES.size() + " tests, " + wrong + " answers not as due");
        if (wrong != 0) {
            System.exit(1);
        }
    }
}
