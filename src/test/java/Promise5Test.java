/** Boundary cases of promise 5 (find) and of the terms that it rests on. */
public final class Promise5Test {
    private static final String LOCATIONS = "xyz";

    public static void main(String[] args) {
        finding();
        atFirst();
        partsOfAnOutcome();
        valuesGoRound();
        placesGoRound();
        placeRegisters();
        skips();
        skipsBeyondTheEnd();
        sameRegisterTwice();
        sources();
        conditionalsThatMustFail();
        conditionalsThatMayFail();
        atomic();
        rulesAtTheirEdges();
        asManyAsFit();
        Cases.finish("Promise5Test");
    }

    /** In each MODEL just these OUTCOMES are found for these programs, in this order. */
    private static void ends(String name, String[] programs, String... ends) {
        Cases.test("promise 5: " + name, x -> {
            Texts.write(x, programs);
            Texts.dueEnds(x, ends);
        });
    }

    private static void end(String name, String program, String end) {
        ends(name, new String[] {program}, end);
    }

    private static void possible(String name, String end, String answers, String... programs) {
        Cases.test("promise 5: " + name, x -> {
            Texts.write(x, programs);
            Texts.duePossible(x, end, answers);
        });
    }

    private static void finding() {
        ends("no instructions", new String[0], "");
        Cases.test("promise 5: found already", x -> {
            Texts.write(x, "set 3 1; st 3 x", "ld 0 x");
            Cases.due("find()", x.find(), 2);
            Cases.dueAndUnchanged(x, "find() again", x::find, 2);
        });
        Cases.test("promise 5: found anew behind add", x -> {
            x.find();
            Texts.write(x, "set 3 1; st 3 x");
            Texts.dueEnds(x, "0:3=1 x=1");
            Texts.write(x, "", "set 3 2; st 3 x");
            Texts.dueEnds(x, "0:3=1 1:3=2 x=1", "0:3=1 1:3=2 x=2");
        });
        Cases.test("promise 5: nothing stays of more that was found before", x -> {
            Texts.write(x, "set 3 1; adding 0 3 x", "set 3 1; adding 0 3 x", "set 3 1; adding 0 3 x");
            Cases.due("find()", x.find(), 6);
            x.clear();
            Texts.write(x, "set 0 3");
            Texts.dueEnds(x, "0:0=3");
            x.clear();
            Texts.dueEnds(x, "");
        });
        Cases.test("promise 5: found behind a call that was refused", x -> {
            Texts.write(x, "set 0 3");
            x.add(0, 7, 0, 4, 0, 0, 0);
            x.model(3);
            Cases.due("find()", x.find(), 1);
            Cases.due("outcome(0)", x.outcome(0), 3);
        });
        ends("each once, though two STORES write the same", new String[] {"set 3 1; st 3 x; st 3 x", "ld 0 x"},
            "0:3=1 x=1", "0:3=1 1:0=1 x=1");
        ends("the least first, in registers and locations",
            new String[] {"set 3 3; st 3 z", "set 3 1; st 3 z", "ld 0 z; set 0 0"},
            "0:3=3 1:3=1 z=1", "0:3=3 1:3=1 z=3");
        Cases.test("what it is: 512 calls, the last of them as due", x -> {
            for (int call = 0; call < 512; call += 4) {
                Cases.due("add", x.add(3, 7, 3, call / 4 % 4, 0, 0, 0), 0);
                Cases.due("find()", x.find(), 1);
                Cases.due("clear()", x.clear(), 1);
                Cases.due("count(0)", x.count(0), 0);
            }
        });
    }

    private static void atFirst() {
        for (int hart = 0; hart < 4; hart++) {
            String[] programs = {"", "", "", ""};
            for (int r = 0; r < 4; r++) {
                int other = (r + 1) % 4;
                programs[hart] = "set " + other + " 1; st " + other + " x; st " + r + " x";
                ends("register " + r + " of hart " + hart + " is 0 at first", programs, hart + ":" + other + "=1");
            }
        }
        for (int x = 0; x < 3; x++) {
            char place = LOCATIONS.charAt(x);
            end("location " + x + " is 0 at first, for a LOAD", "set 0 3; ld 0 " + place, "");
            end("location " + x + " is 0 at first, for a RESERVE", "set 0 3; res 0 " + place, "");
            end("location " + x + " is 0 at first, for a SWAP", "set 0 3; swap 0 0 " + place, place + "=3");
            end("location " + x + " is 0 at first, for an ADDING", "set 0 3; adding 0 0 " + place, place + "=3");
        }
    }

    private static void partsOfAnOutcome() {
        for (int what = 0; what < 19; what++) {
            for (int value = 0; value < 4; value++) {
                part(what, value);
            }
        }
        Cases.test("promise 5: the greatest OUTCOME there is", x -> {
            String all = "set 0 3; set 1 3; set 2 3; set 3 3";
            Texts.write(x, all + "; st 0 x; st 0 y", all + "; st 3 z", all, all);
            Cases.due("find()", x.find(), 1);
            Cases.due("outcome(0)", x.outcome(0), (1L << 38) - 1);
        });
    }

    private static void part(int what, int value) {
        Cases.test("promise 5: value " + value + " in what = " + what, x -> {
            long due = (long) value << 2 * what;
            if (what < 16) {
                x.add(what / 4, 7, what % 4, value, 0, 0, 0);
            } else {
                x.add(3, 7, 0, value, 0, 0, 0);
                x.add(3, 1, 0, what - 16, -1, 0, 0);
                due += (long) value << 24;
            }
            Cases.due("find()", x.find(), 1);
            Cases.due("outcome(0)", x.outcome(0), due);
        });
    }

    private static void valuesGoRound() {
        for (int b = 0; b < 4; b++) {
            for (int c = 0; c < 4; c++) {
                String sets = "set 0 " + b + "; set 1 " + c + "; ";
                String registers = "0:0=" + b + " 0:1=" + c;
                int sum = (b + c) % 4;
                int differ = new int[][] {{0, 1, 2, 3}, {1, 0, 3, 2}, {2, 3, 0, 1}, {3, 2, 1, 0}}[b][c];
                end("ADD of " + b + " and " + c, sets + "add 2 0 1", registers + " 0:2=" + sum);
                end("XOR of " + b + " and " + c, sets + "xor 2 0 1", registers + " 0:2=" + differ);
                end("ADDING of " + b + " to " + c, sets + "st 1 y; adding 2 0 y",
                    registers + " 0:2=" + c + " y=" + sum);
                end("SWAP of " + b + " for " + c, sets + "st 1 y; swap 2 0 y",
                    registers + " 0:2=" + c + " y=" + b);
            }
        }
        for (int value = 0; value < 4; value++) {
            end("ADD of " + value + " to itself", "set 0 " + value + "; add 0 0 0", "0:0=" + 2 * value % 4);
            end("XOR of " + value + " with itself", "set 0 " + value + "; xor 0 0 0", "");
        }
        Cases.test("promise 5: a location goes round by the ADDINGS of four harts", x -> {
            String one = "set 3 1; adding 0 3 x";
            Texts.write(x, one, one, one, one);
            Cases.due("find()", x.find(), 24);
            Cases.due("with(16, 0)", x.with(16, 0), 24);
            Cases.due("with(0, 3)", x.with(0, 3), 6);
        });
    }

    private static void placesGoRound() {
        for (int at = 0; at < 3; at++) {
            for (int value = 0; value < 4; value++) {
                placeGoesRound(at, value);
            }
        }
    }

    private static void placeGoesRound(int at, int value) {
        String set = "set 0 " + value + "; ";
        String by = " " + LOCATIONS.charAt(at) + "+0";
        char there = LOCATIONS.charAt((at + value) % 3);
        String register = "0:0=" + value + " ";
        String name = " at " + at + " and " + value + ", together";
        end("LOAD" + name, set + "set 1 1; st 1 " + there + "; ld 2" + by, register + "0:1=1 0:2=1 " + there + "=1");
        end("STORE" + name, set + "set 1 3; st 1" + by, register + "0:1=3 " + there + "=3");
        end("SWAP" + name, set + "set 1 1; set 2 3; st 1 " + there + "; swap 3 2" + by,
            register + "0:1=1 0:2=3 0:3=1 " + there + "=3");
        end("ADDING" + name, set + "set 1 1; st 1 " + there + "; adding 3 1" + by,
            register + "0:1=1 0:3=1 " + there + "=2");
        end("RESERVE" + name, set + "set 1 1; st 1 " + there + "; res 2" + by,
            register + "0:1=1 0:2=1 " + there + "=1");
        ends("CONDITIONAL" + name, new String[] {set + "set 1 2; res 2 " + there + "; cond 3 1" + by},
            register + "0:1=2 0:3=1", register + "0:1=2 " + there + "=2");
    }

    private static void placeRegisters() {
        String ones = "set 0 1; set 1 1; set 2 1; set 3 1; ";
        for (int at = 0; at < 3; at++) {
            char place = LOCATIONS.charAt(at);
            end("a PLACE " + at + ", -1 is the location alone", ones + "st 3 " + place,
                "0:0=1 0:1=1 0:2=1 0:3=1 " + place + "=1");
        }
        for (int y = 0; y < 4; y++) {
            int value = (y + 1) % 4;
            String set = "set " + y + " 2; set " + value + " 1; ";
            String registers = "0:" + y + "=2 0:" + value + "=1";
            end("a PLACE by register " + y, set + "st " + value + " x+" + y, registers + " z=1");
        }
        ends("a PLACE by a register of its own hart", new String[] {"set 1 1; st 1 x+0", "set 0 2"},
            "0:1=1 1:0=2 x=1");
    }

    private static void skips() {
        String five = "set 0 1; set 1 1; set 2 1; set 3 1; set 0 2";
        String[] left = {"0:0=2 0:1=1 0:2=1 0:3=1", "0:0=2 0:2=1 0:3=1", "0:0=2 0:3=1", "0:0=2", ""};
        for (int b = 1; b <= 5; b++) {
            end("SKIP leaves out the next " + b, "skip 0 " + b + "; " + five, left[b - 1]);
        }
        end("SKIP of the least leaves out just one", "skip 0 1; set 1 1; set 2 2", "0:2=2");
        for (int r = 0; r < 4; r++) {
            int other = (r + 1) % 4;
            String behind = "skip " + r + " 1; set " + other + " 3";
            end("SKIP, register " + r + " is 0", behind, "");
            for (int value = 1; value < 4; value++) {
                end("SKIP, register " + r + " is " + value, "set " + r + " " + value + "; " + behind,
                    "0:" + r + "=" + value + " 0:" + other + "=3");
            }
        }
        end("a register that went round to 0 is 0 for a SKIP", "set 0 2; add 0 0 0; skip 0 1; set 1 1", "");
        end("a SKIP that was left out leaves out none", "skip 0 1; skip 0 3; set 1 1; set 2 1; set 3 1",
            "0:1=1 0:2=1 0:3=1");
        end("a SKIP at the end of what one left out", "skip 0 1; set 1 1; skip 0 1; set 2 1; set 3 1", "0:3=1");
        end("an access left out", "set 1 1; skip 0 1; st 1 x", "0:1=1");
    }

    private static void skipsBeyondTheEnd() {
        end("SKIP of just as many as there are", "set 1 3; skip 0 2; set 1 1; set 1 2", "0:1=3");
        end("SKIP of one more than there are", "set 1 3; skip 0 3; set 1 1; set 1 2", "0:1=3");
        end("SKIP of 5, one is there", "set 1 3; skip 0 5; set 1 1", "0:1=3");
        end("SKIP of 5, none is there", "set 1 3; skip 0 5", "0:1=3");
        end("SKIP of 5 as the sixth", "set 1 1; set 1 2; set 1 3; set 1 1; set 1 2; skip 0 5", "0:1=2");
        ends("SKIP beyond the end leaves other harts alone", new String[] {"skip 0 5", "set 0 3"}, "1:0=3");
    }

    private static void sameRegisterTwice() {
        end("LOAD by the register that it sets", "set 0 3; set 1 2; st 0 y; ld 1 z+1", "0:0=3 0:1=3 y=3");
        end("SWAP of one register", "set 0 3; set 1 1; st 0 x; swap 1 1 x", "0:0=3 0:1=3 x=1");
        end("ADDING of one register", "set 0 3; st 0 x; adding 0 0 x", "0:0=3 x=2");
        end("SWAP by the register that it sets", "set 0 1; swap 0 0 x+0", "y=1");
        end("a CONDITIONAL that FAILS, of one register", "set 3 2; cond 3 3 x", "0:3=1");
        ends("a CONDITIONAL of one register", new String[] {"set 3 2; res 0 x; cond 3 3 x"}, "0:3=1", "x=2");
    }

    private static void sources() {
        ends("a LOAD without a SOURCE, and with one", new String[] {"set 3 2; st 3 x", "ld 0 x"},
            "0:3=2 x=2", "0:3=2 1:0=2 x=2");
        end("a SWAP is no SOURCE of itself", "set 0 1; swap 1 0 x", "0:0=1 x=1");
        end("an ADDING is no SOURCE of itself", "set 0 1; adding 1 0 x", "0:0=1 x=1");
        end("the last WRITE of its hart", "set 0 1; set 1 2; st 0 x; st 1 x; ld 2 x", "0:0=1 0:1=2 0:2=2 x=2");
        end("a WRITE to another location", "set 0 1; st 0 x; ld 1 y", "0:0=1 x=1");
        end("a WRITE behind it in its program", "set 0 1; ld 1 x; st 0 x", "0:0=1 x=1");
        // Its own STORE stands behind the LOAD in THE ORDER, and is its SOURCE all the same.
        possible("a SOURCE that stands behind", "0:0=1 0:1=0 1:0=0", "yes yes no",
            "set 3 1; st 3 x; ld 0 x; xor 2 0 0; ld 1 y+2", "set 3 1; st 3 y; fence 2 1; ld 0 x");
    }

    private static void conditionalsThatMustFail() {
        end("a CONDITIONAL with none before it", "set 3 2; cond 0 3 x", "0:0=1 0:3=2");
        ends("a CONDITIONAL with another hart's RESERVE", new String[] {"res 0 x", "set 3 2; cond 0 3 x"},
            "1:0=1 1:3=2");
        ends("a CONDITIONAL behind a CONDITIONAL", new String[] {"set 3 2; res 0 x; cond 1 3 x; cond 2 3 x"},
            "0:1=1 0:2=1 0:3=2", "0:2=1 0:3=2 x=2");
        end("a CONDITIONAL behind one that must FAIL", "set 3 2; res 0 x; cond 1 3 y; cond 2 3 x",
            "0:1=1 0:2=1 0:3=2");
        end("a CONDITIONAL at another location", "set 3 2; res 0 x; cond 1 3 y", "0:1=1 0:3=2");
        end("a CONDITIONAL at another location by a register", "set 3 1; res 0 x; cond 1 3 x+3", "0:1=1 0:3=1");
        end("a CONDITIONAL at the location of a RESERVE before the last", "set 3 2; res 0 x; res 0 y; cond 1 3 x",
            "0:1=1 0:3=2");
        end("a CONDITIONAL whose RESERVE was left out", "set 3 2; skip 0 1; res 0 x; cond 1 3 x", "0:1=1 0:3=2");
        end("a CONDITIONAL behind a LOAD", "set 3 2; ld 0 x; cond 1 3 x", "0:1=1 0:3=2");
    }

    private static void conditionalsThatMayFail() {
        String fails = "0:1=1 0:3=2";
        String passes = "0:3=2 x=2";
        ends("a CONDITIONAL behind its RESERVE", new String[] {"set 3 2; res 0 x; cond 1 3 x"}, fails, passes);
        ends("a CONDITIONAL, the RESERVE by a register", new String[] {"set 3 2; res 0 y+3; cond 1 3 x"},
            fails, passes);
        ends("a CONDITIONAL, accesses between", new String[] {"set 3 2; res 0 x; ld 0 y; st 0 z; cond 1 3 x"},
            fails, passes);
        ends("a CONDITIONAL, the one between left out",
            new String[] {"set 3 2; res 0 x; skip 1 1; cond 2 3 x; cond 1 3 x"}, fails, passes);
        ends("a CONDITIONAL of the last of two RESERVES", new String[] {"set 3 2; res 0 y; res 0 x; cond 1 3 x"},
            fails, passes);
        ends("a CONDITIONAL of a RESERVE behind a CONDITIONAL",
            new String[] {"set 3 2; res 0 y; cond 0 3 x; set 0 0; res 0 x; cond 1 3 x"}, fails, passes);
    }

    private static void atomic() {
        String atomic = "set 3 1; res 0 x; cond 1 3 x";
        ends("ATOMIC, from the beginning on and from a SOURCE on", new String[] {atomic, "set 3 2; st 3 x"},
            "0:0=2 0:3=1 1:3=2 x=1", "0:3=1 1:3=2 x=2", "0:1=1 0:3=1 1:3=2 x=2", "0:0=2 0:1=1 0:3=1 1:3=2 x=2");
        ends("ATOMIC, a WRITE of its own hart between", new String[] {"set 3 1; set 2 2; res 0 x; st 2 x; cond 1 3 x"},
            "0:2=2 0:3=1 x=1", "0:1=1 0:2=2 0:3=1 x=2");
        possible("ATOMIC, a WRITE to another location between", "0:1=0 0:2=1", "yes yes yes",
            "set 3 1; res 0 x; ld 2 y aq; cond 1 3 x", "set 3 1; st 3 y");
        possible("ATOMIC, two from the beginning on", "0:0=0 0:1=0 1:0=0 1:1=0", "no no no", atomic, atomic);
        possible("ATOMIC, one FAILS", "0:0=0 0:1=0 1:0=0 1:1=1", "yes yes yes", atomic, atomic);
    }

    private static void rulesAtTheirEdges() {
        possible("rule 2, two READS without a SOURCE", "1:0=1 1:3=0", "yes no no",
            "set 3 1; st 3 x; fence 2 2; st 3 y",
            "ld 0 y; xor 1 0 0; ld 2 z+1; ld 3 z; xor 1 3 3; ld 3 x+1");
        possible("rule 2, a READ without a SOURCE behind one that has one", "1:0=1 1:1=0", "no no no",
            "set 3 1; st 3 x", "ld 0 x; ld 1 x");
        possible("rule 4, FENCE 0, 0", "0:0=0 1:0=0", "yes yes no",
            "set 3 1; st 3 x; fence 0 0; ld 0 y", "set 3 1; st 3 y; fence 3 3; ld 0 x");
        possible("rule 4, FENCE 3, 3", "0:0=0 1:0=0", "no no no",
            "set 3 1; st 3 x; fence 3 3; ld 0 y", "set 3 1; st 3 y; fence 3 3; ld 0 x");
        possible("MODEL 1, a WRITE and a READ", "0:0=0 1:0=0", "yes yes no",
            "set 3 1; st 3 x; ld 0 y", "set 3 1; st 3 y; ld 0 x");
        possible("MODEL 1, BOTH and a READ", "0:0=0 1:0=0", "yes no no",
            "set 3 1; swap 1 3 x; ld 0 y", "set 3 1; swap 1 3 y; ld 0 x");
        possible("MODEL 1, a WRITE and BOTH", "0:0=0 1:0=0", "yes no no",
            "set 3 1; st 3 x; swap 0 3 y", "set 3 1; st 3 y; swap 0 3 x");
        possible("MODEL 1, a CONDITIONAL and a READ", "0:1=0 0:0=0 1:0=0", "yes yes no",
            "set 3 1; res 2 x; cond 1 3 x; ld 0 y", "set 3 1; st 3 y; fence 2 1; ld 0 x");
        possible("MODEL 1, two READS", "1:0=1 1:1=0", "yes no no",
            "set 3 1; st 3 x; fence 2 2; st 3 y", "ld 0 y; ld 1 x");
        possible("MODEL 1, two WRITES", "1:0=1 1:1=0", "yes no no",
            "set 3 1; st 3 x; st 3 y", "ld 0 y; fence 1 1; ld 1 x");
        possible("MODEL 1, a READ and a WRITE", "0:0=1 1:0=1", "yes no no",
            "set 3 1; ld 0 x; st 3 y", "set 3 1; ld 0 y; fence 1 2; st 3 x");
    }

    private static void asManyAsFit() {
        end("6 instructions of a hart, the last one done", "set 0 1; set 0 2; set 0 3; set 0 1; set 0 2; set 0 3", "0:0=3");
        end("4 that read, of one hart",
            "set 3 1; adding 0 3 x; adding 1 3 x; adding 2 3 x; adding 3 3 x; st 3 y", "0:1=1 0:2=2 0:3=3 y=3");
        Cases.test("promise 5: 24 instructions, 4 of them read", x -> {
            String all = "set 0 1; set 1 2; set 2 3; set 3 1; fence 3 3; adding 0 3 x";
            Texts.write(x, all, all, all, all);
            Cases.due("find()", x.find(), 24);
            Cases.due("with(1, 2)", x.with(1, 2), 24);
        });
        Cases.test("promise 5: 6 accesses, 4 of them read", x -> {
            Texts.write(x, "set 3 1; st 3 x", "set 3 2; st 3 x", "ld 0 x; ld 1 x; ld 2 x; ld 3 x");
            for (int m = 0; m < 3; m++) {
                x.model(m);
                // 15 rows of 0, the first and the second value, whichever is first.
                Cases.due("find()", x.find(), 30);
                Cases.due("with(16, 1)", x.with(16, 1), 15);
                // Rows without one of the two are the same both ways.
                Cases.due("count(5)", x.count(5), 21);
            }
        });
        ends("4 that read, each the least or the greatest value",
            new String[] {"set 3 3; st 3 x", "ld 0 x; ld 1 x; ld 2 x; ld 3 x"},
            "0:3=3 x=3", "0:3=3 1:3=3 x=3", "0:3=3 1:2=3 1:3=3 x=3", "0:3=3 1:1=3 1:2=3 1:3=3 x=3",
            "0:3=3 1:0=3 1:1=3 1:2=3 1:3=3 x=3");
        Cases.test("promise 5: 6 accesses, none of them reads", x -> {
            Texts.write(x, "set 3 1; st 3 x; st 3 y", "set 3 2; st 3 x; st 3 y", "set 3 3; st 3 x; st 3 y");
            x.model(2);
            // The last one to x may be any, and the last one to y too.
            Cases.due("find()", x.find(), 9);
            Cases.due("count(5)", x.count(5), 1);
        });
    }
}
