/** Boundary cases of promises 6 (outcome), 7 (with), 8 (both), 9 (is), 10 (instruction) and 11 (count). */
public final class Promises6To11Test {
    private static final int NONE = LitmusRunner.NONE, BAD = LitmusRunner.BAD;
    private static final int LEAST_INT = Integer.MIN_VALUE, GREATEST_INT = Integer.MAX_VALUE;
    private static final int[] NO_PARTS = {-1, 19, LEAST_INT, GREATEST_INT};
    private static final int[] NO_VALUES = {-1, 4, LEAST_INT, GREATEST_INT};
    // Two harts that read what the other one writes: the reads may both get 0 in MODELS 0 and 1.
    private static final String[] TWO_HARTS = {"set 3 1; st 3 x; ld 0 y", "set 3 2; st 3 y; ld 0 x"};
    private static final String[] TWO_HARTS_ENDS = {
        "0:3=1 1:3=2 x=1 y=2", "0:0=2 0:3=1 1:3=2 x=1 y=2",
        "0:3=1 1:0=1 1:3=2 x=1 y=2", "0:0=2 0:3=1 1:0=1 1:3=2 x=1 y=2"};

    public static void main(String[] args) {
        outcome();
        outcomeOfMany();
        with();
        withCounts();
        both();
        bothCounts();
        is();
        instruction();
        instructionRefused();
        count();
        countWays();
        goneAndAskedAgain();
        Cases.finish("Promises6To11Test");
    }

    private static void findTwoHarts(LitmusRunner x) {
        Texts.write(x, TWO_HARTS);
        Cases.due("find()", x.find(), 4);
    }

    /** 156 OUTCOMES, more than any other test has. */
    private static void findMany(LitmusRunner x) {
        Texts.write(x, "set 3 2; swap 1 1 y+1; swap 0 2 y", "set 3 3; swap 2 3 y; swap 0 3 y+1",
            "set 3 1; st 3 y", "set 3 2; st 3 y");
        Cases.due("find()", x.find(), 156);
    }

    private static void outcome() {
        Cases.test("promise 6: nothing is found yet", x -> {
            Texts.write(x, TWO_HARTS);
            for (int i : new int[] {-1, 0, 1, LEAST_INT, GREATEST_INT}) {
                Cases.due("outcome(" + i + ")", x.outcome(i), NONE);
            }
        });
        Cases.test("promise 6: from 0 on, up to the last", x -> {
            findTwoHarts(x);
            for (int i = 0; i < 4; i++) {
                Cases.due("outcome(" + i + ")", x.outcome(i), Texts.outcome(TWO_HARTS_ENDS[i]));
            }
        });
        for (int i : new int[] {-1, 4, 5, 63, 64, LEAST_INT, GREATEST_INT}) {
            Cases.test("promise 6: of 4 OUTCOMES there is none with number " + i, x -> {
                findTwoHarts(x);
                Cases.dueAndUnchanged(x, "outcome(" + i + ")", () -> x.outcome(i), NONE);
            });
        }
        Cases.test("promise 6: one OUTCOME alone", x -> {
            x.find();
            Cases.due("outcome(-1)", x.outcome(-1), NONE);
            Cases.due("outcome(0)", x.outcome(0), 0);
            Cases.due("outcome(1)", x.outcome(1), NONE);
        });
        Cases.test("promise 6: an OUTCOME that no int holds", x -> {
            Texts.write(x, "", "", "", "set 3 3; st 3 z");
            x.find();
            Cases.due("outcome(0)", x.outcome(0), 3L * (1L << 30) + 3L * (1L << 36));
        });
    }

    private static void outcomeOfMany() {
        Cases.test("promise 6: 156 OUTCOMES, the least first", x -> {
            findMany(x);
            long last = -1;
            for (int i = 0; i < 156; i++) {
                long outcome = x.outcome(i);
                Cases.due("outcome(" + i + ") is more than the one before", outcome > last ? 1 : 0, 1);
                Cases.due("is(outcome(" + i + "))", x.is(outcome), 1);
                last = outcome;
            }
            Cases.due("outcome(156)", x.outcome(156), NONE);
        });
        Cases.test("promise 6: less is found than before", x -> {
            findMany(x);
            x.clear();
            findTwoHarts(x);
            Cases.due("outcome(3)", x.outcome(3), Texts.outcome(TWO_HARTS_ENDS[3]));
            Cases.due("outcome(4)", x.outcome(4), NONE);
            Cases.due("outcome(155)", x.outcome(155), NONE);
        });
    }

    private static void with() {
        for (int what : NO_PARTS) {
            Cases.test("promise 7: what = " + what + " is BAD", x -> {
                Cases.due("nothing found: with(" + what + ", 0)", x.with(what, 0), BAD);
                findTwoHarts(x);
                for (int value = 0; value < 4; value++) {
                    Cases.due("with(" + what + ", " + value + ")", x.with(what, value), BAD);
                }
                Cases.dueAndUnchanged(x, "with(" + what + ", 0)", () -> x.with(what, 0), BAD);
            });
        }
        for (int value : NO_VALUES) {
            Cases.test("promise 7: value " + value + " is BAD", x -> {
                Cases.due("nothing found: with(0, " + value + ")", x.with(0, value), BAD);
                findTwoHarts(x);
                for (int what = 0; what < 19; what++) {
                    Cases.due("with(" + what + ", " + value + ")", x.with(what, value), BAD);
                }
                Cases.dueAndUnchanged(x, "with(0, " + value + ")", () -> x.with(0, value), BAD);
            });
        }
        Cases.test("promise 7: nothing is found yet, for each what and value", x -> {
            for (int n = 0; n < 76; n++) {
                Cases.due("with(" + n / 4 + ", " + n % 4 + ")", x.with(n / 4, n % 4), NONE);
            }
        });
    }

    private static void withCounts() {
        for (int what = 0; what < 19; what++) {
            int there = what;
            Cases.test("promise 7: each value in what = " + what, x -> {
                for (int value = 0; value < 4; value++) {
                    x.clear();
                    x.add(there < 16 ? there / 4 : 0, 7, there % 4, value, 0, 0, 0);
                    if (there >= 16) {
                        x.add(0, 1, there % 4, there - 16, -1, 0, 0);
                    }
                    x.find();
                    for (int asked = 0; asked < 4; asked++) {
                        Cases.due("with(" + there + ", " + asked + ")", x.with(there, asked), asked == value ? 1 : 0);
                    }
                }
            });
        }
        Cases.test("promise 7: none, some and all of the OUTCOMES", x -> {
            findTwoHarts(x);
            Cases.due("with(0, 3)", x.with(0, 3), 0);
            Cases.due("with(0, 2)", x.with(0, 2), 2);
            Cases.due("with(4, 1)", x.with(4, 1), 2);
            Cases.due("with(16, 1)", x.with(16, 1), 4);
            Cases.due("with(17, 2)", x.with(17, 2), 4);
            Cases.due("with(18, 0)", x.with(18, 0), 4);
        });
        Cases.test("promise 7: the four values together are all of 156 OUTCOMES", x -> {
            findMany(x);
            for (int what = 0; what < 19; what++) {
                int sum = 0;
                for (int value = 0; value < 4; value++) {
                    sum += x.with(what, value);
                }
                Cases.due("with(" + what + ", 0 .. 3)", sum, 156);
            }
        });
    }

    private static void both() {
        for (int what : NO_PARTS) {
            Cases.test("promise 8: what = " + what + " is BAD, first or second", x -> {
                Cases.due("nothing found: first", x.both(what, 0, 0, 0), BAD);
                Cases.due("nothing found: second", x.both(0, 0, what, 0), BAD);
                findTwoHarts(x);
                Cases.dueAndUnchanged(x, "first", () -> x.both(what, 0, 0, 0), BAD);
                Cases.dueAndUnchanged(x, "second", () -> x.both(0, 0, what, 0), BAD);
                Cases.due("twice", x.both(what, 0, what, 0), BAD);
                Cases.due("second, the first has none", x.both(0, 3, what, 0), BAD);
            });
        }
        for (int value : NO_VALUES) {
            Cases.test("promise 8: value " + value + " is BAD, first or second", x -> {
                Cases.due("nothing found: first", x.both(0, value, 18, 0), BAD);
                Cases.due("nothing found: second", x.both(0, 0, 18, value), BAD);
                findTwoHarts(x);
                Cases.dueAndUnchanged(x, "first", () -> x.both(0, value, 18, 0), BAD);
                Cases.dueAndUnchanged(x, "second", () -> x.both(0, 0, 18, value), BAD);
                Cases.due("twice", x.both(0, value, 0, value), BAD);
                Cases.due("second, the first has none", x.both(0, 3, 18, value), BAD);
            });
        }
        Cases.test("promise 8: nothing is found yet, least and greatest", x -> {
            Cases.due("both(0, 0, 18, 3)", x.both(0, 0, 18, 3), NONE);
            Cases.due("both(18, 3, 0, 0)", x.both(18, 3, 0, 0), NONE);
            Cases.due("both(15, 0, 16, 3)", x.both(15, 0, 16, 3), NONE);
        });
    }

    private static void bothCounts() {
        Cases.test("promise 8: the same part, the same value or another", x -> {
            findTwoHarts(x);
            Cases.due("both(0, 2, 0, 2)", x.both(0, 2, 0, 2), 2);
            Cases.due("both(0, 2, 0, 0)", x.both(0, 2, 0, 0), 0);
            Cases.due("both(18, 0, 18, 0)", x.both(18, 0, 18, 0), 4);
            Cases.due("both(18, 0, 18, 3)", x.both(18, 0, 18, 3), 0);
        });
        Cases.test("promise 8: none, one and all of the OUTCOMES", x -> {
            x.model(2);
            Texts.write(x, TWO_HARTS);
            Cases.due("find()", x.find(), 3);
            Cases.due("both(0, 0, 4, 0)", x.both(0, 0, 4, 0), 0);
            Cases.due("both(4, 0, 0, 0)", x.both(4, 0, 0, 0), 0);
            Cases.due("both(0, 2, 4, 0)", x.both(0, 2, 4, 0), 1);
            Cases.due("both(4, 0, 0, 2)", x.both(4, 0, 0, 2), 1);
            Cases.due("both(0, 2, 4, 1)", x.both(0, 2, 4, 1), 1);
            Cases.due("both(16, 1, 17, 2)", x.both(16, 1, 17, 2), 3);
            Cases.due("both(0, 2, 18, 0)", x.both(0, 2, 18, 0), 2);
        });
        Cases.test("promise 8: least and greatest what and value", x -> {
            Texts.write(x, "", "", "", "set 3 3; st 3 z");
            x.find();
            Cases.due("both(15, 3, 18, 3)", x.both(15, 3, 18, 3), 1);
            Cases.due("both(18, 3, 15, 3)", x.both(18, 3, 15, 3), 1);
            Cases.due("both(0, 0, 18, 3)", x.both(0, 0, 18, 3), 1);
            Cases.due("both(0, 0, 18, 0)", x.both(0, 0, 18, 0), 0);
            Cases.due("both(14, 0, 17, 0)", x.both(14, 0, 17, 0), 1);
        });
    }

    private static void is() {
        Cases.test("promise 9: nothing is found yet", x -> {
            for (long outcome : new long[] {-1, 0, 1, Long.MIN_VALUE, Long.MAX_VALUE}) {
                Cases.due("is(" + outcome + ")", x.is(outcome), NONE);
            }
        });
        Cases.test("promise 9: of empty programs 0 alone", x -> {
            x.find();
            Cases.due("is(0)", x.is(0), 1);
            for (long outcome : new long[] {-1, 1, 1L << 32, 1L << 38, Long.MIN_VALUE, Long.MAX_VALUE}) {
                Cases.dueAndUnchanged(x, "is(" + outcome + ")", () -> x.is(outcome), 0);
            }
        });
        Cases.test("promise 9: each OUTCOME, and the numbers next to it", x -> {
            findTwoHarts(x);
            for (String end : TWO_HARTS_ENDS) {
                long outcome = Texts.outcome(end);
                Cases.due("is(" + outcome + ")", x.is(outcome), 1);
                Cases.due("is, one less", x.is(outcome - 1), 0);
                Cases.due("is, one more", x.is(outcome + 1), 0);
            }
        });
        Cases.test("promise 9: numbers that have an OUTCOME's lower bits", x -> {
            findTwoHarts(x);
            long outcome = Texts.outcome(TWO_HARTS_ENDS[0]);
            for (int bit = 38; bit < 64; bit++) {
                Cases.due("is, and bit " + bit, x.is(outcome | 1L << bit), 0);
            }
            Cases.due("is, as an int", x.is((int) outcome), 0);
            Cases.due("is, with a minus", x.is(-outcome), 0);
        });
        Cases.test("promise 9: the greatest OUTCOME there is", x -> {
            String all = "set 0 3; set 1 3; set 2 3; set 3 3";
            Texts.write(x, all + "; st 0 x; st 0 y", all + "; st 3 z", all, all);
            x.find();
            Cases.due("is", x.is((1L << 38) - 1), 1);
            Cases.due("is, one less", x.is((1L << 38) - 2), 0);
            Cases.due("is, one more", x.is(1L << 38), 0);
        });
        Cases.test("promise 9: what was found before and is no more", x -> {
            findTwoHarts(x);
            x.model(2);
            x.find();
            Cases.due("is of what MODEL 2 rules out", x.is(Texts.outcome(TWO_HARTS_ENDS[0])), 0);
            Cases.due("is of what MODEL 2 leaves", x.is(Texts.outcome(TWO_HARTS_ENDS[1])), 1);
        });
        Cases.test("promise 9: what was found before and is more than all that is found", x -> {
            Texts.write(x, "set 3 1; st 3 x", "set 3 2; st 3 x", "set 3 3; st 3 x");
            Cases.due("find()", x.find(), 3);
            long[] before = {x.outcome(0), x.outcome(1), x.outcome(2)};
            x.clear();
            x.find();
            for (long outcome : before) {
                Cases.due("is(" + outcome + ")", x.is(outcome), 0);
            }
        });
    }

    private static void instruction() {
        Cases.test("promise 10: harts and numbers, least and greatest", x -> {
            for (int n = 0; n < 24; n++) {
                x.add(n / 6, 8, n % 4, n / 6, n % 6 / 2, 0, 0);
            }
            for (int n = 0; n < 24; n++) {
                int[] due = {8, n % 4, n / 6, n % 6 / 2, 0, 0};
                for (int k = 0; k <= 5; k++) {
                    Cases.due("instruction(" + n / 6 + ", " + n % 6 + ", " + k + ")",
                        x.instruction(n / 6, n % 6, k), due[k]);
                }
            }
            for (int hart = 0; hart < 4; hart++) {
                Cases.due("instruction(" + hart + ", 6, 0)", x.instruction(hart, 6, 0), NONE);
            }
        });
        Cases.test("promise 10: k from 0 to 5, a PLACE alone is -1", x -> {
            x.add(2, 5, 3, 2, 1, -1, 3);
            int[] due = {5, 3, 2, 1, -1, 3};
            for (int k = 0; k <= 5; k++) {
                int number = k;
                Cases.dueAndUnchanged(x, "instruction(2, 0, " + k + ")", () -> x.instruction(2, 0, number), due[k]);
            }
        });
        Cases.test("promise 10: 0 where an instruction has none", x -> {
            Texts.write(x, "ld 3 z+3 aqrl; st 3 z+3 rl; fence 3 3; set 3 3; xor 3 3 3; skip 3 5");
            int[] had = {4, 4, 2, 2, 3, 2};
            for (int i = 0; i < 6; i++) {
                for (int k = had[i] + 1; k <= 5; k++) {
                    Cases.due("instruction(0, " + i + ", " + k + ")", x.instruction(0, i, k), 0);
                }
            }
        });
    }

    private static void instructionRefused() {
        for (int hart : new int[] {-1, 4, LEAST_INT, GREATEST_INT}) {
            Cases.test("promise 10: there is no hart " + hart, x -> {
                Texts.write(x, "set 0 1", "set 0 1", "set 0 1", "set 0 1");
                Cases.dueAndUnchanged(x, "instruction", () -> x.instruction(hart, 0, 0), NONE);
            });
        }
        for (int i : new int[] {-1, 2, 6, LEAST_INT, GREATEST_INT}) {
            Cases.test("promise 10: of 2 there is none with number " + i, x -> {
                Texts.write(x, "set 0 1; set 0 2", "set 0 1; set 0 2; set 0 3");
                Cases.dueAndUnchanged(x, "instruction", () -> x.instruction(0, i, 0), NONE);
            });
        }
        for (int k : new int[] {-1, 6, LEAST_INT, GREATEST_INT}) {
            Cases.test("promise 10: k = " + k + " is BAD", x -> {
                Texts.write(x, "set 0 1", "cond 3 3 z+3 aqrl");
                Cases.dueAndUnchanged(x, "instruction of a SET", () -> x.instruction(0, 0, k), BAD);
                Cases.dueAndUnchanged(x, "instruction of a CONDITIONAL", () -> x.instruction(1, 0, k), BAD);
            });
            Cases.test("promise 10: NONE comes before BAD, k = " + k, x -> {
                Cases.due("nothing there yet", x.instruction(0, 0, k), NONE);
                Texts.write(x, "set 0 1");
                Cases.due("no such number", x.instruction(0, 1, k), NONE);
                Cases.due("no such hart", x.instruction(4, 0, k), NONE);
            });
        }
    }

    private static void count() {
        for (int what : new int[] {-1, 6, LEAST_INT, GREATEST_INT}) {
            Cases.test("promise 11: what = " + what + " is BAD", x -> {
                Cases.due("nothing found", x.count(what), BAD);
                findTwoHarts(x);
                Cases.dueAndUnchanged(x, "found", () -> x.count(what), BAD);
            });
        }
        Cases.test("promise 11: nothing there yet", x -> {
            int[] due = {0, 0, 0, NONE, 0, NONE};
            for (int what = 0; what <= 5; what++) {
                Cases.due("count(" + what + ")", x.count(what), due[what]);
            }
        });
        for (int kind = 0; kind <= 10; kind++) {
            int there = kind;
            Cases.test("promise 11: one instruction of kind " + kind, x -> {
                x.add(1, there, 1, 1, 1, 0, 0);
                Cases.due("count(0)", x.count(0), 1);
                Cases.due("count(1)", x.count(1), there <= 5 ? 1 : 0);
                Cases.due("count(2)", x.count(2), there == 0 || there == 2 || there == 3 || there == 4 ? 1 : 0);
            });
        }
        Cases.test("promise 11: as many as fit", x -> {
            Texts.write(x, "ld 0 x; st 0 x; swap 0 0 x; adding 0 0 x; res 0 x; cond 0 0 x");
            for (int n = 0; n < 18; n++) {
                x.add(1 + n / 6, 6 + n % 5, 1, 1, 1, 0, 0);
            }
            x.model(2);
            int[] due = {24, 6, 4, NONE, 2, NONE};
            for (int what = 0; what <= 5; what++) {
                Cases.due("count(" + what + ")", x.count(what), due[what]);
            }
            Cases.due("find()", x.find(), 2);
            Cases.due("count(3)", x.count(3), 2);
            Cases.due("count(5)", x.count(5), 2);
        });
        Cases.test("promise 11: instructions count whether they are done or not", x -> {
            Texts.write(x, "skip 0 5; ld 0 x; st 0 x; set 0 1");
            x.find();
            Cases.due("count(0)", x.count(0), 4);
            Cases.due("count(1)", x.count(1), 2);
            Cases.due("count(2)", x.count(2), 1);
        });
    }

    private static void ways(String name, int ends, int ways, String... programs) {
        Cases.test("promise 11: " + name, x -> {
            Texts.write(x, programs);
            Cases.due("count(5), nothing found", x.count(5), NONE);
            for (int m = 0; m < 3; m++) {
                x.model(m);
                x.find();
                Cases.due("count(3)", x.count(3), ends);
                Cases.due("count(5)", x.count(5), ways);
            }
        });
    }

    private static void countWays() {
        ways("no instructions are done in one way", 1, 1);
        ways("two OUTCOMES of one way", 2, 1, "set 0 1; st 0 x", "set 0 2; st 0 x");
        ways("one OUTCOME of two ways, by what is read", 1, 2, "set 3 1; st 3 x", "ld 0 x; set 0 0");
        ways("one OUTCOME of two ways, by what FAILS", 1, 2, "res 0 x; cond 1 3 x; set 1 0");
        ways("a CONDITIONAL that must FAIL", 1, 1, "cond 1 3 x");
        ways("two CONDITIONALS, the second must FAIL", 2, 2, "res 0 x; cond 1 3 x; cond 2 3 x");
        ways("one way for two SOURCES of the same value", 2, 2, "set 3 1; st 3 x; st 3 x", "ld 0 x");
        ways("a READ that is left out has no values", 1, 2,
            "set 3 1; st 3 x", "ld 0 x; skip 0 1; ld 1 x; set 0 0; set 1 0");
        ways("a READ that is always left out", 1, 1, "set 3 1; st 3 x", "skip 0 1; ld 0 x");
        ways("each value of a READ", 12, 4,
            "set 3 1; st 3 x", "set 3 2; st 3 x", "set 3 3; st 3 x", "ld 0 x");
        ways("four that read get four values in 24 ways", 24, 24, "set 3 1; adding 0 3 x", "set 3 1; adding 0 3 x",
            "set 3 1; adding 0 3 x", "set 3 1; adding 0 3 x");
        Cases.test("promise 11: ways without an ORDER do not count", x -> {
            Texts.write(x, TWO_HARTS);
            int[] due = {4, 4, 3};
            for (int m = 0; m < 3; m++) {
                x.model(m);
                x.find();
                Cases.due("count(5) in MODEL " + m, x.count(5), due[m]);
            }
        });
    }

    private static void goneAndAskedAgain() {
        Cases.test("promises 6 to 9 and 11: NONE again behind add", x -> {
            findTwoHarts(x);
            x.add(3, 6, 0, 0, 0, 0, 0);
            Cases.nothingIsFound(x);
        });
        Cases.test("promises 6 to 9 and 11: NONE again behind clear", x -> {
            findTwoHarts(x);
            x.clear();
            Cases.nothingIsFound(x);
        });
        Cases.test("promises 6 to 9 and 11: NONE again behind model", x -> {
            findTwoHarts(x);
            x.model(0);
            Cases.nothingIsFound(x);
        });
        Cases.test("promises 6 and 9: asking changes nothing", x -> {
            findTwoHarts(x);
            Cases.dueAndUnchanged(x, "outcome(0)", () -> x.outcome(0), Texts.outcome(TWO_HARTS_ENDS[0]));
            Cases.dueAndUnchanged(x, "is(0)", () -> x.is(0), 0);
        });
        Cases.test("promises 7, 8 and 11: asking changes nothing", x -> {
            findTwoHarts(x);
            Cases.dueAndUnchanged(x, "with(0, 2)", () -> x.with(0, 2), 2);
            Cases.dueAndUnchanged(x, "both(0, 2, 4, 1)", () -> x.both(0, 2, 4, 1), 1);
            Cases.dueAndUnchanged(x, "count(5)", () -> x.count(5), 4);
        });
    }
}
