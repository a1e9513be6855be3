/** Boundary cases of promises 1 (a new object), 2 (clear), 3 (model) and 4 (add). */
public final class Promises1To4Test {
    private static final int NONE = LitmusRunner.NONE, BAD = LitmusRunner.BAD, FULL = LitmusRunner.FULL;
    private static final int LEAST_INT = Integer.MIN_VALUE, GREATEST_INT = Integer.MAX_VALUE;
    private static final String[] KINDS = {
        "LOAD", "STORE", "SWAP", "ADDING", "RESERVE", "CONDITIONAL", "FENCE", "SET", "ADD", "XOR", "SKIP"};
    // Least and greatest of a to e, by kind; a kind's row is as long as its numbers are many.
    private static final int[][] LEAST = {
        {0, 0, -1, 0}, {0, 0, -1, 0}, {0, 0, 0, -1, 0}, {0, 0, 0, -1, 0}, {0, 0, -1, 0}, {0, 0, 0, -1, 0},
        {0, 0}, {0, 0}, {0, 0, 0}, {0, 0, 0}, {0, 1}};
    private static final int[][] GREATEST = {
        {3, 2, 3, 3}, {3, 2, 3, 2}, {3, 3, 2, 3, 3}, {3, 3, 2, 3, 3}, {3, 2, 3, 3}, {3, 3, 2, 3, 3},
        {3, 3}, {3, 3}, {3, 3, 3}, {3, 3, 3}, {3, 5}};
    // Which MARKS 0 .. 3 a kind can have.
    private static final boolean[][] MARKS = {
        {true, true, false, true}, {true, false, true, false}, {true, true, true, true},
        {true, true, true, true}, {true, true, false, true}, {true, true, true, true}};
    private static final int[] READERS = {0, 2, 3, 4};

    public static void main(String[] args) {
        newObject();
        clear();
        clearMakesRoom();
        model();
        modelRefused();
        addHartsAndKinds();
        addNumbers();
        addMarks();
        addOtherNumbers();
        addFullHart();
        addFullOfAccesses();
        addFullOfReaders();
        addBadBeforeFull();
        addRefused();
        addTaken();
        Cases.finish("Promises1To4Test");
    }

    private static int add(LitmusRunner x, int hart, int kind, int[] numbers) {
        int[] n = java.util.Arrays.copyOf(numbers, 5);
        return x.add(hart, kind, n[0], n[1], n[2], n[3], n[4]);
    }

    private static int addLeast(LitmusRunner x, int hart, int kind) {
        return add(x, hart, kind, LEAST[kind]);
    }

    private static void dueNumbers(LitmusRunner x, int hart, int i, int kind, int[] n) {
        Cases.due("kind", x.instruction(hart, i, 0), kind);
        for (int k = 1; k <= 5; k++) {
            Cases.due("number " + k, x.instruction(hart, i, k), k <= n.length ? n[k - 1] : 0);
        }
    }

    /** Six SETs of each hart: as many instructions as fit. */
    private static void fill(LitmusRunner x) {
        for (int n = 0; n < 24; n++) {
            Cases.due("add", x.add(n / 6, 7, 0, 1, 0, 0, 0), n % 6);
        }
    }

    private static void newObject() {
        Cases.test("promise 1: no instructions", x -> {
            for (int what = 0; what <= 2; what++) {
                Cases.due("count(" + what + ")", x.count(what), 0);
            }
            for (int hart = 0; hart < 4; hart++) {
                Cases.due("instruction(" + hart + ", 0, 0)", x.instruction(hart, 0, 0), NONE);
            }
        });
        Cases.test("promise 1: MODEL 0", x -> {
            Cases.due("count(4)", x.count(4), 0);
            Cases.due("model(2)", x.model(2), 0);
        });
        Cases.test("promise 1: nothing found", Cases::nothingIsFound);
        Cases.test("promise 1: a new object has nothing of another", x -> {
            x.model(2);
            fill(x);
            x.find();
            LitmusRunner y = new LitmusRunner();
            Cases.due("count(0)", y.count(0), 0);
            Cases.due("count(4)", y.count(4), 0);
            Cases.nothingIsFound(y);
            y.model(1);
            y.clear();
            Cases.due("count(0) of the other", x.count(0), 24);
            Cases.due("count(3) of the other", x.count(3), 1);
            Cases.due("count(4) of the other", x.count(4), 2);
        });
    }

    private static void clear() {
        Cases.test("promise 2: no instructions there yet", x -> {
            Cases.due("clear()", x.clear(), 0);
            Cases.due("clear() again", x.clear(), 0);
        });
        for (int hart = 0; hart < 4; hart++) {
            int only = hart;
            Cases.test("promise 2: one instruction, of hart " + hart, x -> {
                x.add(only, 7, 3, 3, 0, 0, 0);
                Cases.due("clear()", x.clear(), 1);
                Cases.due("instruction", x.instruction(only, 0, 0), NONE);
                Cases.due("count(0)", x.count(0), 0);
                Cases.due("clear() again", x.clear(), 0);
                x.find();
                Cases.due("outcome(0)", x.outcome(0), 0);
            });
        }
        Cases.test("promise 2: as many instructions as fit", x -> {
            fill(x);
            Cases.due("clear()", x.clear(), 24);
            Cases.due("clear() again", x.clear(), 0);
        });
        Cases.test("promise 2: what was found is gone", x -> {
            x.add(0, 7, 0, 3, 0, 0, 0);
            x.find();
            x.clear();
            Cases.nothingIsFound(x);
        });
        Cases.test("promise 2: what was found is gone, of empty programs too", x -> {
            x.find();
            Cases.due("clear()", x.clear(), 0);
            Cases.nothingIsFound(x);
        });
        for (int m = 0; m < 3; m++) {
            int model = m;
            Cases.test("promise 2: MODEL " + m + " stays", x -> {
                x.model(model);
                x.add(0, 7, 0, 3, 0, 0, 0);
                x.clear();
                Cases.due("count(4)", x.count(4), model);
            });
        }
    }

    private static void clearMakesRoom() {
        Cases.test("promise 2: as many instructions as fit, anew", x -> {
            fill(x);
            x.clear();
            fill(x);
            Cases.due("a seventh", x.add(3, 7, 0, 1, 0, 0, 0), FULL);
        });
        Cases.test("promise 2: as many accesses and reads as fit, anew", x -> {
            for (int round = 0; round < 2; round++) {
                for (int kind = 0; kind <= 5; kind++) {
                    Cases.due("add", addLeast(x, 0, kind), kind);
                }
                Cases.due("a seventh access", addLeast(x, 1, 1), FULL);
                Cases.due("clear()", x.clear(), 6);
                Cases.due("count(1)", x.count(1), 0);
                Cases.due("count(2)", x.count(2), 0);
            }
        });
        Cases.test("promise 2: nothing stays of a longer instruction", x -> {
            x.add(0, 5, 3, 3, 2, 3, 3);
            x.clear();
            x.add(0, 7, 1, 2, 0, 0, 0);
            dueNumbers(x, 0, 0, 7, new int[] {1, 2});
        });
    }

    private static void model() {
        for (int from = 0; from < 3; from++) {
            for (int to = 0; to < 3; to++) {
                int before = from;
                int behind = to;
                Cases.test("promise 3: from MODEL " + from + " to " + to, x -> {
                    x.model(before);
                    x.find();
                    Cases.due("model(" + behind + ")", x.model(behind), before);
                    Cases.due("count(4)", x.count(4), behind);
                    Cases.nothingIsFound(x);
                });
            }
        }
        Cases.test("promise 3: instructions stay", x -> {
            x.add(3, 5, 3, 2, 1, -1, 3);
            x.model(2);
            Cases.due("count(0)", x.count(0), 1);
            dueNumbers(x, 3, 0, 5, new int[] {3, 2, 1, -1, 3});
        });
        Cases.test("promise 3: MODELS 0 and 1 find by rules of their own", x -> {
            Texts.write(x, "set 3 1; st 3 x; st 3 y", "ld 0 y; ld 1 x");
            dueFound(x, 4, 3, 3);
        });
        Cases.test("promise 3: MODELS 1 and 2 find by rules of their own", x -> {
            Texts.write(x, "set 3 1; st 3 x; ld 0 y", "set 3 1; st 3 y; ld 0 x");
            dueFound(x, 4, 4, 3);
        });
    }

    private static void dueFound(LitmusRunner x, int... due) {
        for (int m : new int[] {2, 1, 0, 1, 2, 0}) {
            x.model(m);
            Cases.due("find() in MODEL " + m, x.find(), due[m]);
        }
    }

    private static void modelRefused() {
        for (int m : new int[] {-1, 3, 4, LEAST_INT, GREATEST_INT}) {
            Cases.test("promise 3: MODEL " + m + " is BAD, and all stays as it was", x -> {
                Cases.dueAndUnchanged(x, "model of a new object", () -> x.model(m), BAD);
                x.model(2);
                Texts.write(x, "set 3 1; st 3 x; ld 0 y", "set 3 1; st 3 y; ld 0 x");
                x.find();
                Cases.dueAndUnchanged(x, "model, when OUTCOMES are found", () -> x.model(m), BAD);
                Cases.due("model(0)", x.model(0), 2);
            });
        }
    }

    private static void addHartsAndKinds() {
        for (int hart = 0; hart < 4; hart++) {
            int there = hart;
            Cases.test("promise 4: hart " + hart + " is taken", x -> {
                Cases.due("add", x.add(there, 7, 0, 1, 0, 0, 0), 0);
                for (int h = 0; h < 4; h++) {
                    Cases.due("instruction of hart " + h, x.instruction(h, 0, 0), h == there ? 7 : NONE);
                }
            });
        }
        for (int hart : new int[] {-1, 4, LEAST_INT, GREATEST_INT}) {
            Cases.test("promise 4: hart " + hart + " is BAD", x -> {
                for (int kind = 0; kind <= 10; kind++) {
                    Cases.due("add of kind " + kind, addLeast(x, hart, kind), BAD);
                }
                Cases.due("count(0)", x.count(0), 0);
            });
        }
        for (int kind = 0; kind <= 10; kind++) {
            int there = kind;
            Cases.test("promise 4: kind " + kind + " is taken", x -> {
                Cases.due("add", addLeast(x, 0, there), 0);
                Cases.due("instruction", x.instruction(0, 0, 0), there);
            });
        }
        for (int kind : new int[] {-1, 11, LEAST_INT, GREATEST_INT}) {
            Cases.test("promise 4: kind " + kind + " is BAD", x -> {
                Cases.due("add, all 0", x.add(0, kind, 0, 0, 0, 0, 0), BAD);
                Cases.due("add, all 1", x.add(0, kind, 1, 1, 1, 1, 1), BAD);
                Cases.due("count(0)", x.count(0), 0);
            });
        }
    }

    private static void addNumbers() {
        for (int kind = 0; kind <= 10; kind++) {
            for (int k = 0; k < LEAST[kind].length; k++) {
                addNumber(kind, k);
            }
        }
    }

    private static void addNumber(int kind, int k) {
        int least = LEAST[kind][k];
        int greatest = GREATEST[kind][k];
        String number = KINDS[kind] + ", " + "abcde".charAt(k);
        Cases.test("promise 4: " + number + ", least " + least + " and greatest " + greatest, x -> {
            int[] n = GREATEST[kind].clone();
            n[k] = least;
            Cases.due("add of the least", add(x, 0, kind, n), 0);
            dueNumbers(x, 0, 0, kind, n);
            n = LEAST[kind].clone();
            n[k] = greatest;
            Cases.due("add of the greatest", add(x, 0, kind, n), 1);
            dueNumbers(x, 0, 1, kind, n);
        });
        Cases.test("promise 4: " + number + ", less than " + least + " or more than " + greatest + " is BAD", x -> {
            for (int wrong : new int[] {least - 1, greatest + 1, LEAST_INT, GREATEST_INT}) {
                int[] n = LEAST[kind].clone();
                n[k] = wrong;
                Cases.due("add of " + wrong, add(x, 0, kind, n), BAD);
            }
            Cases.due("count(0)", x.count(0), 0);
        });
    }

    private static void addMarks() {
        for (int kind = 0; kind <= 5; kind++) {
            for (int marks = 0; marks <= 3; marks++) {
                int[] n = LEAST[kind].clone();
                n[n.length - 1] = marks;
                int there = kind;
                int due = MARKS[kind][marks] ? 0 : BAD;
                Cases.test("promise 4: MARKS " + marks + " of " + KINDS[kind], x -> {
                    Cases.due("add", add(x, 1, there, n), due);
                    Cases.due("count(0)", x.count(0), due == 0 ? 1 : 0);
                });
            }
        }
    }

    private static void addOtherNumbers() {
        for (int kind = 0; kind <= 10; kind++) {
            int there = kind;
            int had = LEAST[kind].length;
            Cases.test("promise 4: numbers that " + KINDS[kind] + " does not have", x -> {
                int i = 0;
                for (int other : new int[] {-1, 3, LEAST_INT, GREATEST_INT}) {
                    int[] n = {other, other, other, other, other};
                    System.arraycopy(LEAST[there], 0, n, 0, had);
                    Cases.due("add with " + other, add(x, 2, there, n), i);
                    dueNumbers(x, 2, i, there, LEAST[there]);
                    i++;
                }
            });
        }
    }

    private static void addFullHart() {
        for (int hart = 0; hart < 4; hart++) {
            int there = hart;
            Cases.test("promise 4: 6 instructions of hart " + hart + " fit, one more is FULL", x -> {
                for (int i = 0; i < 6; i++) {
                    Cases.due("add", x.add(there, 7, 0, 1, 0, 0, 0), i);
                }
                for (int kind = 0; kind <= 10; kind++) {
                    Cases.due("a seventh, of kind " + kind, addLeast(x, there, kind), FULL);
                }
                Cases.due("count(0)", x.count(0), 6);
                for (int other = 0; other < 4; other++) {
                    Cases.due("hart " + other, addLeast(x, other, 6), other == there ? FULL : 0);
                }
            });
        }
        Cases.test("promise 4: 24 instructions of all harts fit", x -> {
            fill(x);
            Cases.due("count(0)", x.count(0), 24);
        });
    }

    private static void addFullOfAccesses() {
        for (int kind = 0; kind <= 5; kind++) {
            int there = kind;
            Cases.test("promise 4: 6 accesses fit, one more is FULL: " + KINDS[kind], x -> {
                for (int n = 0; n < 5; n++) {
                    Cases.due("add", addLeast(x, n % 4, n % 2 == 0 ? 1 : 5), n / 4);
                }
                Cases.due("a sixth access", addLeast(x, 1, there), 1);
                for (int hart = 0; hart < 4; hart++) {
                    Cases.due("a seventh access", addLeast(x, hart, there), FULL);
                }
                Cases.due("count(1)", x.count(1), 6);
            });
        }
        Cases.test("promise 4: 6 accesses of one hart fit", x -> {
            for (int kind = 0; kind <= 5; kind++) {
                Cases.due("add", addLeast(x, 3, kind), kind);
            }
            Cases.due("count(1)", x.count(1), 6);
            Cases.due("count(2)", x.count(2), 4);
        });
        Cases.test("promise 4: kinds 6 to 10 fit when accesses are full", x -> {
            for (int kind = 0; kind <= 5; kind++) {
                addLeast(x, kind % 2, kind);
            }
            for (int kind = 6; kind <= 10; kind++) {
                Cases.due("add of kind " + kind, addLeast(x, 2, kind), kind - 6);
            }
            Cases.due("count(1)", x.count(1), 6);
        });
        Cases.test("promise 4: accesses that are left out count too", x -> {
            Texts.write(x, "skip 0 5; st 0 x; st 0 x; st 0 x; st 0 x; st 0 x", "skip 0 1; st 0 x");
            Cases.due("a seventh access", addLeast(x, 2, 1), FULL);
        });
    }

    private static void addFullOfReaders() {
        for (int kind : READERS) {
            Cases.test("promise 4: 4 that read fit, one more is FULL: " + KINDS[kind], x -> {
                for (int hart = 0; hart < 3; hart++) {
                    Cases.due("add", addLeast(x, hart, READERS[hart]), 0);
                }
                Cases.due("a fourth", addLeast(x, 0, kind), 1);
                for (int hart = 0; hart < 4; hart++) {
                    Cases.due("a fifth", addLeast(x, hart, kind), FULL);
                }
                Cases.due("count(1)", x.count(1), 4);
                Cases.due("count(2)", x.count(2), 4);
            });
        }
        Cases.test("promise 4: STORE and CONDITIONAL do not read, and fit when reads are full", x -> {
            for (int hart = 0; hart < 4; hart++) {
                addLeast(x, hart, READERS[hart]);
            }
            Cases.due("a STORE", addLeast(x, 0, 1), 1);
            Cases.due("a CONDITIONAL", addLeast(x, 1, 5), 1);
            Cases.due("count(1)", x.count(1), 6);
            Cases.due("count(2)", x.count(2), 4);
        });
        Cases.test("promise 4: reads that are left out count too", x -> {
            Texts.write(x, "skip 0 5; ld 0 x; ld 0 x; ld 0 x; ld 0 x");
            Cases.due("a fifth", addLeast(x, 2, 0), FULL);
        });
    }

    private static void addBadBeforeFull() {
        Cases.test("promise 4: BAD, though the hart has 6", x -> {
            fill(x);
            Cases.due("a wrong number", x.add(0, 7, 0, 4, 0, 0, 0), BAD);
            Cases.due("a wrong kind", x.add(0, 11, 0, 0, 0, 0, 0), BAD);
            Cases.due("a wrong hart", x.add(4, 7, 0, 0, 0, 0, 0), BAD);
        });
        Cases.test("promise 4: BAD, though there would be too many accesses", x -> {
            Texts.write(x, "st 0 x; st 0 x; st 0 x; st 0 x; st 0 x; st 0 x");
            Cases.due("wrong MARKS", x.add(1, 1, 0, 0, -1, 1, 0), BAD);
        });
        Cases.test("promise 4: BAD, though there would be too many that read", x -> {
            Texts.write(x, "ld 0 x; ld 0 x; ld 0 x; ld 0 x");
            Cases.due("a wrong register", x.add(1, 0, 4, 0, -1, 0, 0), BAD);
        });
    }

    private static void addRefused() {
        Cases.test("promise 4: what is BAD leaves all as it was", x -> {
            Texts.write(x, "set 3 1; st 3 x", "ld 0 x");
            x.find();
            Cases.dueAndUnchanged(x, "a wrong hart", () -> x.add(4, 0, 0, 0, -1, 0, 0), BAD);
            Cases.dueAndUnchanged(x, "a wrong kind", () -> x.add(0, 11, 0, 0, -1, 0, 0), BAD);
            Cases.dueAndUnchanged(x, "wrong MARKS", () -> x.add(1, 0, 0, 0, -1, 2, 0), BAD);
            Cases.due("the next one", addLeast(x, 1, 0), 1);
        });
        Cases.test("promise 4: what is FULL leaves all as it was, a hart with 6", x -> {
            Texts.write(x, "set 3 1; set 2 2; set 1 3; set 0 1; set 0 2; set 0 3", "st 0 x");
            x.find();
            Cases.dueAndUnchanged(x, "a seventh SET", () -> x.add(0, 7, 0, 1, 0, 0, 0), FULL);
            Cases.dueAndUnchanged(x, "a seventh, LOAD", () -> x.add(0, 0, 0, 0, -1, 0, 0), FULL);
            Cases.due("the next one", addLeast(x, 1, 0), 1);
        });
        Cases.test("promise 4: what is FULL leaves all as it was, 6 accesses", x -> {
            Texts.write(x, "set 3 1; st 3 x; st 3 x; st 3 x", "ld 0 x; st 3 y; st 3 z");
            x.find();
            Cases.dueAndUnchanged(x, "a seventh access", () -> x.add(2, 3, 0, 0, 0, -1, 0), FULL);
            Cases.due("the next one", addLeast(x, 2, 7), 0);
        });
        Cases.test("promise 4: what is FULL leaves all as it was, 4 that read", x -> {
            Texts.write(x, "ld 0 x; ld 0 x; ld 0 x; ld 0 x");
            x.find();
            Cases.dueAndUnchanged(x, "a fifth that reads", () -> x.add(1, 2, 0, 0, 0, -1, 0), FULL);
            Cases.due("a STORE", addLeast(x, 1, 1), 0);
            Cases.due("a STORE", addLeast(x, 1, 1), 1);
            Cases.due("a seventh access", addLeast(x, 1, 1), FULL);
        });
    }

    private static void addTaken() {
        Cases.test("promise 4: numbers go from 0 to 5, each hart's by themselves", x -> {
            for (int i = 0; i < 6; i++) {
                for (int hart = 3; hart >= 0; hart--) {
                    Cases.due("add", x.add(hart, 7, i % 4, hart, 0, 0, 0), i);
                }
            }
            for (int n = 0; n < 24; n++) {
                dueNumbers(x, n / 6, n % 6, 7, new int[] {n % 6 % 4, n / 6});
            }
        });
        for (int kind = 0; kind <= 10; kind++) {
            int there = kind;
            Cases.test("promise 4: what was found is gone behind " + KINDS[kind], x -> {
                x.find();
                addLeast(x, 3, there);
                Cases.nothingIsFound(x);
            });
        }
    }
}
