/** An object is used for up to 512 calls: the last of them answers as the first would. */
public final class LongUseTest {
    private static final int MOST = 512;

    public static void main(String[] args) {
        findAndAsk();
        fillAndClear();
        refuse();
        Cases.finish("LongUseTest");
    }

    /** Store buffering, found in one MODEL after another: 6 calls, then 3 in each turn. */
    private static void findAndAsk() {
        Cases.test("what it is: up to 512 calls, found and asked over and over", x -> {
            Texts.write(x, "set 3 1; st 3 x; ld 0 y", "set 3 1; st 3 y; ld 0 x");
            int[] found = {4, 4, 3};
            int model = 0;
            for (int calls = 6; calls + 3 <= MOST; calls += 3) {
                int next = (model + 1) % 3;
                Cases.due("call " + (calls + 1) + ", model(" + next + ")", x.model(next), model);
                Cases.due("call " + (calls + 2) + ", find()", x.find(), found[next]);
                Cases.due("call " + (calls + 3) + ", both(0, 0, 4, 0)", x.both(0, 0, 4, 0), found[next] - 3);
                model = next;
            }
        });
    }

    /** As many accesses as fit, then cleared: 8 calls in each turn. */
    private static void fillAndClear() {
        Cases.test("what it is: up to 512 calls, filled and cleared over and over", x -> {
            for (int calls = 0; calls + 8 <= MOST; calls += 8) {
                int hart = calls / 8 % 4;
                for (int n = 0; n < 6; n++) {
                    int kind = n < 4 ? 0 : 1;
                    Cases.due("call " + (calls + n + 1) + ", add", x.add(hart, kind, 0, 0, -1, 0, 0), n);
                }
                Cases.due("call " + (calls + 7) + ", find()", x.find(), 1);
                Cases.due("call " + (calls + 8) + ", clear()", x.clear(), 6);
            }
        });
    }

    private static void refuse() {
        Cases.test("what it is: up to 512 calls, none but the last is taken", x -> {
            for (int calls = 1; calls < MOST; calls++) {
                Cases.due("call " + calls + ", add(4, 7, 0, 1, 0, 0, 0)", x.add(4, 7, 0, 1, 0, 0, 0), LitmusRunner.BAD);
            }
            Cases.due("call " + MOST + ", add(3, 7, 0, 1, 0, 0, 0)", x.add(3, 7, 0, 1, 0, 0, 0), 0);
        });
    }
}
