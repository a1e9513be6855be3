/**
 * Small programs whose outcomes are known, most of them from the literature on
 * weak memories. Each of THE RULES (promise 5) has at least one that would fail
 * without it. Texts tells how programs and ends are written.
 */
public final class LitmusTest {
    public static void main(String[] args) {
        classics();
        rule1();
        rule2();
        rule3();
        rule4();
        rules5To7();
        rules9And10();
        rule11();
        rule12();
        rule13();
        atomic();
        carrying();
        nothingHoldsBackwards();
        Cases.finish("LitmusTest");
    }

    private static void classics() {
        ends("SB", "0:0=0 1:0=0", "yes yes no",
            "set 3 1; st 3 x; ld 0 y", "set 3 1; st 3 y; ld 0 x");
        ends("MP", "1:0=1 1:1=0", "yes no no",
            "set 3 1; st 3 x; st 3 y", "ld 0 y; ld 1 x");
        ends("LB", "0:0=1 1:0=1", "yes no no",
            "set 3 1; ld 0 x; st 3 y", "set 3 1; ld 0 y; st 3 x");
        ends("2+2W", "x=1 y=1", "yes no no",
            "set 0 1; set 1 2; st 0 x; st 1 y", "set 0 1; set 1 2; st 0 y; st 1 x");
        ends("S", "1:0=1 x=2", "yes no no",
            "set 0 2; set 1 1; st 0 x; st 1 y", "set 1 1; ld 0 y; st 1 x");
        ends("R", "1:0=0 y=2", "yes yes no",
            "set 3 1; st 3 x; st 3 y", "set 3 2; st 3 y; ld 0 x");
        ends("IRIW", "2:0=1 2:1=0 3:0=1 3:1=0", "yes no no",
            "set 3 1; st 3 x", "set 3 1; st 3 y", "ld 0 x; ld 1 y", "ld 0 y; ld 1 x");
        ends("IRIW+fences", "2:0=1 2:1=0 3:0=1 3:1=0", "no no no",
            "set 3 1; st 3 x", "set 3 1; st 3 y", "ld 0 x; fence 1 1; ld 1 y", "ld 0 y; fence 1 1; ld 1 x");
        ends("WRC+data+addr", "1:0=1 2:0=1 2:1=0", "no no no",
            "set 3 1; st 3 x", "ld 0 x; st 0 y", "ld 0 y; xor 2 0 0; ld 1 x+2");
    }

    private static void rule1() {
        ends("rule 1: CoWW", "x=1", "no no no", "set 0 1; set 1 2; st 0 x; st 1 x");
        ends("rule 1: CoRW1", "0:0=1", "no no no", "set 3 1; ld 0 x; st 3 x");
        ends("rule 1: CoRW2", "0:0=2 x=2", "no no no", "set 3 1; ld 0 x; st 3 x", "set 3 2; st 3 x");
        ends("rule 1: CoWR", "0:0=0", "no no no", "set 3 1; st 3 x; ld 0 x");
        ends("rule 1: CoWR, another's", "0:0=2 x=1", "no no no", "set 3 1; st 3 x; ld 0 x", "set 3 2; st 3 x");
        ends("rule 1: a swap behind a store", "x=1", "no no no", "set 0 1; set 1 2; st 0 x; swap 2 1 x");
        ends("rule 1: a swap behind a load", "0:0=2", "no no no", "set 1 2; ld 0 x; swap 2 1 x");
    }

    private static void rule2() {
        ends("rule 2: CoRR", "1:0=1 1:1=0", "no no no", "set 3 1; st 3 x", "ld 0 x; ld 1 x");
        ends("rule 2: CoRR forwards", "1:0=0 1:1=1", "yes yes yes", "set 3 1; st 3 x", "ld 0 x; ld 1 x");
        ends("rule 2: CoRR, a swap first", "1:0=2 1:1=1", "no no no",
            "set 3 2; st 3 x", "set 2 3; swap 0 2 x; ld 1 x");
        ends("rule 2: RSW", "1:0=1 1:3=0", "yes no no",
            "set 3 1; st 3 x; fence 2 2; st 3 y",
            "ld 0 y; xor 1 0 0; ld 2 z+1; ld 3 z; xor 1 3 3; ld 3 x+1");
        ends("rule 2: fri-rfi", "1:0=1 1:1=2 1:3=0", "yes no no",
            "set 3 1; st 3 x; fence 2 2; st 3 y",
            "set 3 2; ld 0 y; st 3 y; ld 1 y; xor 2 1 1; ld 3 x+2");
    }

    private static void rule3() {
        ends("rule 3: SB+rfi", "0:0=1 0:1=0 1:0=0", "yes yes no",
            "set 3 1; st 3 x; ld 0 x; xor 2 0 0; ld 1 y+2", "set 3 1; st 3 y; fence 2 1; ld 0 x");
        ends("rule 3: SB+rfi of a swap", "0:0=1 0:1=0 1:0=0", "no no no",
            "set 3 1; swap 2 3 x; ld 0 x; xor 2 0 0; ld 1 y+2", "set 3 1; st 3 y; fence 2 1; ld 0 x");
        ends("rule 3: SB+rfi of an adding", "0:0=1 0:1=0 1:0=0", "no no no",
            "set 3 1; adding 2 3 x; ld 0 x; xor 2 0 0; ld 1 y+2", "set 3 1; st 3 y; fence 2 1; ld 0 x");
        ends("rule 3: SB+rfi of a conditional", "0:0=1 0:2=0 0:1=0 1:0=0", "no no no",
            "set 3 1; res 1 x; cond 2 3 x; ld 0 x; xor 3 0 0; ld 1 y+3", "set 3 1; st 3 y; fence 2 1; ld 0 x");
        ends("rule 3: SB with swaps", "0:0=0 1:0=0", "yes no no",
            "set 3 1; swap 1 3 x; ld 0 y", "set 3 1; swap 1 3 y; ld 0 x");
    }

    private static void rule4() {
        for (int first = 0; first <= 3; first++) {
            for (int second = 0; second <= 3; second++) {
                String fence = "fence " + first + " " + second + "; ";
                boolean ww = first >= 2 && second >= 2;
                boolean rr = first % 2 == 1 && second % 2 == 1;
                boolean wr = first >= 2 && second % 2 == 1;
                boolean rw = first % 2 == 1 && second >= 2;
                ends("rule 4: MP+" + fence + "acquire", "1:0=1 1:1=0", ww ? "no no no" : "yes no no",
                    "set 3 1; st 3 x; " + fence + "st 3 y", "ld 0 y aq; ld 1 x");
                ends("rule 4: MP+release+" + fence, "1:0=1 1:1=0", rr ? "no no no" : "yes no no",
                    "set 3 1; st 3 x; st 3 y rl", "ld 0 y; " + fence + "ld 1 x");
                ends("rule 4: SB+" + fence, "0:0=0 1:0=0", wr ? "no no no" : "yes yes no",
                    "set 3 1; st 3 x; " + fence + "ld 0 y", "set 3 1; st 3 y; " + fence + "ld 0 x");
                ends("rule 4: LB+" + fence, "0:0=1 1:0=1", rw ? "no no no" : "yes no no",
                    "set 3 1; ld 0 x; " + fence + "st 3 y", "set 3 1; ld 0 y; " + fence + "st 3 x");
                ends("rule 4: SB, swaps first+" + fence, "0:0=0 1:0=0", wr || rr ? "no no no" : "yes no no",
                    "set 3 1; swap 1 3 x; " + fence + "ld 0 y", "set 3 1; swap 1 3 y; " + fence + "ld 0 x");
                ends("rule 4: MP, a swap last+" + fence, "1:0=1 1:1=0", ww || wr ? "no no no" : "yes no no",
                    "set 3 1; st 3 x; " + fence + "swap 0 3 y", "ld 0 y aq; ld 1 x");
            }
        }
        ends("rule 4: two fences, the first one holds writes", "1:0=1 1:1=0", "no no no",
            "set 3 1; st 3 x; fence 2 2; fence 1 1; st 3 y", "ld 0 y aq; ld 1 x");
        ends("rule 4: two fences, the first one holds reads", "1:0=1 1:1=0", "no no no",
            "set 3 1; st 3 x; st 3 y rl", "ld 0 y; fence 1 1; fence 2 2; ld 1 x");
        ends("rule 4: a fence left out", "1:0=1 1:1=0", "yes no no",
            "set 3 1; st 3 x; skip 0 1; fence 3 3; st 3 y", "ld 0 y; fence 3 3; ld 1 x");
        ends("rule 4: a fence of another hart", "0:0=0 1:0=0", "yes yes no",
            "set 3 1; st 3 x; fence 3 3; ld 0 y", "set 3 1; st 3 y; ld 0 x");
    }

    private static void rules5To7() {
        ends("rules 5 to 7: MP+rl+aq", "1:0=1 1:1=0", "no no no",
            "set 3 1; st 3 x; st 3 y rl", "ld 0 y aq; ld 1 x");
        ends("rules 5 to 7: MP+rl", "1:0=1 1:1=0", "yes no no", "set 3 1; st 3 x; st 3 y rl", "ld 0 y; ld 1 x");
        ends("rules 5 to 7: MP+aq", "1:0=1 1:1=0", "yes no no", "set 3 1; st 3 x; st 3 y", "ld 0 y aq; ld 1 x");
        ends("rules 5 to 7: MP, marks the wrong way", "1:0=1 1:1=0", "yes no no",
            "set 3 1; st 3 x rl; st 3 y", "ld 0 y; ld 1 x aq");
        ends("rules 5 to 7: LB+aq", "0:0=1 1:0=1", "no no no",
            "set 3 1; ld 0 x aq; st 3 y", "set 3 1; ld 0 y aq; st 3 x");
        ends("rules 5 to 7: LB+rl", "0:0=1 1:0=1", "no no no",
            "set 3 1; ld 0 x; st 3 y rl", "set 3 1; ld 0 y; st 3 x rl");
        ends("rules 5 to 7: SB+rl+aq", "0:0=0 1:0=0", "no no no",
            "set 3 1; st 3 x rl; ld 0 y aq", "set 3 1; st 3 y rl; ld 0 x aq");
        ends("rules 5 to 7: SB+rl", "0:0=0 1:0=0", "yes yes no",
            "set 3 1; st 3 x rl; ld 0 y", "set 3 1; st 3 y rl; ld 0 x");
        ends("rules 5 to 7: SB+aq", "0:0=0 1:0=0", "yes yes no",
            "set 3 1; st 3 x; ld 0 y aq", "set 3 1; st 3 y; ld 0 x aq");
        ends("rules 5 to 7: SB+aqrl loads", "0:0=0 1:0=0", "no no no",
            "set 3 1; st 3 x; ld 0 y aqrl", "set 3 1; st 3 y; ld 0 x aqrl");
        ends("rules 5 to 7: SB, swaps aq", "0:0=0 1:0=0", "no no no",
            "set 3 1; swap 1 3 x aq; ld 0 y", "set 3 1; swap 1 3 y aq; ld 0 x");
        ends("rules 5 to 7: SB, swaps rl", "0:0=0 1:0=0", "yes no no",
            "set 3 1; swap 1 3 x rl; ld 0 y", "set 3 1; swap 1 3 y rl; ld 0 x");
        ends("rules 5 to 7: SB, swaps rl, loads aq", "0:0=0 1:0=0", "no no no",
            "set 3 1; swap 1 3 x rl; ld 0 y aq", "set 3 1; swap 1 3 y rl; ld 0 x aq");
        ends("rules 5 to 7: MP, a conditional with rl", "0:1=0 1:0=1 1:1=0", "no no no",
            "set 3 1; st 3 x; res 0 y; cond 1 3 y rl", "ld 0 y aq; ld 1 x");
        ends("rules 5 to 7: MP, a reserve with aq", "1:0=1 1:1=0", "no no no",
            "set 3 1; st 3 x; st 3 y rl", "res 0 y aq; ld 1 x");
    }

    private static void rules9And10() {
        ends("rules 9 and 10: MP+addr", "1:0=1 1:1=0", "no no no",
            "set 3 1; st 3 x; fence 2 2; st 3 y", "ld 0 y; xor 2 0 0; ld 1 x+2");
        ends("rules 9 and 10: LB+addrs", "0:0=1 1:0=1", "no no no",
            "set 3 1; ld 0 x; xor 2 0 0; st 3 y+2", "set 3 1; ld 0 y; xor 2 0 0; st 3 x+2");
        ends("rules 9 and 10: LB+datas", "0:0=1 1:0=1", "no no no", "ld 0 x; st 0 y", "ld 0 y; st 0 x");
        ends("rules 9 and 10: LB+datas by xor", "0:0=1 1:0=1", "no no no",
            "set 3 1; ld 0 x; xor 2 0 0; add 1 3 2; st 1 y", "set 3 1; ld 0 y; xor 2 0 0; add 1 2 3; st 1 x");
        ends("rules 9 and 10: LB+data+po", "0:0=1 1:0=1", "yes no no", "ld 0 x; st 0 y", "set 3 1; ld 0 y; st 3 x");
        ends("rules 9 and 10: LB+data of a swap", "0:0=1 1:0=1", "no no no", "ld 0 x; swap 2 0 y", "ld 0 y; swap 2 0 x");
        ends("rules 9 and 10: a swap does not need what it sets", "0:1=1 1:0=1", "yes no no",
            "set 3 1; ld 0 x; add 1 0 2; swap 0 3 y", "ld 0 y; st 0 x");
        ends("rules 9 and 10: a load does not need what it sets", "1:1=1 1:0=0", "yes no no",
            "set 3 1; st 3 x; fence 2 2; st 3 y", "ld 0 y; add 1 0 2; ld 0 x");
    }

    private static void rule11() {
        ends("rule 11: LB+ctrls", "0:0=1 1:0=1", "no no no",
            "set 3 1; ld 0 x; skip 0 1; st 3 y", "set 3 1; ld 0 y; skip 0 1; st 3 x");
        ends("rule 11: LB+ctrls, behind what is left out", "0:0=1 1:0=1", "no no no",
            "set 3 1; ld 0 x; skip 0 1; set 2 1; st 3 y", "set 3 1; ld 0 y; skip 0 1; set 2 1; st 3 x");
        ends("rule 11: LB+ctrls of nought", "0:0=1 1:0=1", "no no no",
            "set 3 1; ld 0 x; xor 2 0 0; skip 2 1; set 2 1; st 3 y",
            "set 3 1; ld 0 y; xor 2 0 0; skip 2 1; set 2 1; st 3 x");
        ends("rule 11: LB+ctrls, two skips", "0:0=1 1:0=1", "no no no",
            "set 3 1; ld 0 x; skip 0 1; skip 3 1; st 3 y", "set 3 1; ld 0 y; skip 0 1; skip 3 1; st 3 x");
        ends("rule 11: LB+ctrl, another register", "0:0=1 1:0=1", "yes no no",
            "set 3 1; ld 0 x; skip 3 1; st 3 y", "set 3 1; ld 0 y; skip 0 1; st 3 x");
        ends("rule 11: LB+ctrl left out", "0:0=1 1:0=1", "yes no no",
            "set 3 1; ld 0 x; skip 1 1; skip 0 1; st 3 y", "set 3 1; ld 0 y; skip 0 1; st 3 x");
        ends("rule 11: MP+ctrl", "1:0=1 1:1=0", "yes no no",
            "set 3 1; st 3 x; fence 2 2; st 3 y", "ld 0 y; skip 0 1; ld 1 x");
        ends("rule 11: what a skip's register carried then", "0:0=1 1:0=1", "no no no",
            "set 3 1; ld 0 x; skip 0 1; set 0 1; st 3 y", "set 3 1; ld 0 y; skip 0 1; set 0 1; st 3 x");
    }

    private static void rule12() {
        String writer = "set 3 1; st 3 x; fence 2 2; st 3 y";
        ends("rule 12: a forwarded value", "1:0=1 1:1=1 1:3=0", "no no no",
            writer, "ld 0 y; st 0 z; ld 1 z; xor 2 1 1; ld 3 x+2");
        ends("rule 12: a forwarded place", "1:0=1 1:1=0", "no no no",
            writer, "ld 0 y; xor 2 0 0; st 3 z+2; ld 1 z; xor 2 1 1; ld 1 x+2");
        ends("rule 12: PPOCA", "1:0=1 1:1=0", "yes no no",
            writer, "ld 0 y; skip 0 1; st 3 z; ld 1 z; xor 2 1 1; ld 1 x+2");
        ends("rule 12: a forwarded value, not needed", "1:0=1 1:2=0", "yes no no",
            writer, "ld 0 y; st 3 z; ld 1 z; xor 2 1 1; ld 2 x+2");
    }

    private static void rule13() {
        ends("rule 13: LB+addr-po", "0:0=1 1:0=1", "no no no",
            "set 3 1; ld 0 x; xor 2 0 0; ld 1 z+2; st 3 y", "set 3 1; ld 0 y; fence 1 2; st 3 x");
        ends("rule 13: LB+addr of a write-po", "0:0=1 1:0=1", "no no no",
            "set 3 1; ld 0 x; xor 2 0 0; st 3 z+2; st 3 y", "set 3 1; ld 0 y; fence 1 2; st 3 x");
        ends("rule 13: LB+data-po", "0:0=1 1:0=1", "yes no no",
            "set 3 1; ld 0 x; st 0 z; st 3 y", "set 3 1; ld 0 y; fence 1 2; st 3 x");
        ends("rule 13: MP+addr-po", "1:0=1 1:1=0", "yes no no",
            "set 3 1; st 3 x; fence 2 2; st 3 y", "ld 0 y; xor 2 0 0; ld 2 z+2; ld 1 x");
        ends("rule 13: LB+po-addr", "0:0=1 1:0=1", "yes no no",
            "set 3 1; ld 0 x; st 3 y; xor 2 0 0; ld 1 z+2", "set 3 1; ld 0 y; fence 1 2; st 3 x");
    }

    private static void atomic() {
        ends("ATOMIC: another's swap between", "0:0=0 0:1=0 1:0=0 x=1", "no no no",
            "set 3 1; res 0 x; cond 1 3 x", "set 3 2; swap 0 3 x");
        ends("ATOMIC: another's write between two that both pass", "0:1=0 0:2=0 1:0=2 x=2", "yes yes yes",
            "set 3 2; res 0 x; cond 1 3 x; res 0 x; cond 2 3 x", "set 3 1; swap 0 3 x");
        // The reserve reads its own hart's store before others see that.
        ends("ATOMIC: from the source on", "0:0=1 0:1=0 1:0=1 x=2", "yes no no",
            "set 3 1; st 3 x; res 0 x; st 0 y; set 2 2; cond 1 2 x", "ld 0 y; st 0 x");
    }

    private static void carrying() {
        ends("CARRY: SET carries none", "0:0=1 1:0=1", "yes no no",
            "ld 0 x; st 0 y", "ld 1 y; add 0 1 1; set 0 1; st 0 x; add 0 1 2");
        // What a conditional sets stands behind the conditional, which stands behind its reserve.
        ends("CARRY: a conditional that passes", "0:1=0 1:0=1 1:1=0", "no no no",
            "set 3 1; res 0 x; cond 1 3 x; add 2 3 1; st 2 y", "ld 0 y aq; ld 1 x");
        ends("CARRY: a conditional that fails", "0:0=1 0:1=1 1:0=1", "yes no no",
            "set 3 1; res 0 x; cond 1 0 x; st 1 y", "ld 0 y; st 0 x");
        ends("CARRY: a conditional that fails, into a register that carried", "0:0=1 0:1=1 1:0=1", "yes no no",
            "res 0 x; add 1 0 2; cond 1 3 x; st 1 y", "ld 0 y; st 0 x");
        ends("CARRY: a load, just that one", "0:1=1 1:0=1", "yes no no",
            "set 3 1; ld 0 x; add 1 0 2; ld 0 z; st 3 y+0", "ld 0 y; st 0 x");
        ends("CARRY: a swap's register", "0:0=1 1:0=1", "no no no",
            "set 3 2; swap 0 3 z; st 0 y", "ld 0 y; st 0 z");
        ends("CARRY: both registers of ADD", "0:0=1 1:0=1", "no no no",
            "set 3 1; ld 0 x; xor 1 0 0; add 2 1 3; st 2 y", "set 3 1; ld 0 y; xor 1 0 0; add 2 3 1; st 2 x");
        ends("CARRY: both registers of XOR", "0:0=1 1:0=1", "no no no",
            "set 3 1; ld 0 x; xor 1 0 0; xor 2 1 3; st 2 y", "set 3 1; ld 0 y; xor 1 0 0; xor 2 3 1; st 2 x");
    }

    /** What comes behind two accesses in a program says nothing of them. */
    private static void nothingHoldsBackwards() {
        String other = "ld 0 y; st 0 x";
        String end = "0:0=1 1:0=1";
        ends("behind: a dependency behind", end, "yes no no", "set 3 1; ld 0 x; st 3 y+2; xor 2 0 0", other);
        ends("behind: a skip behind", end, "yes no no", "set 3 1; ld 0 x; st 3 y; skip 0 1; set 1 1", other);
        ends("behind: a fence behind", end, "yes no no", "set 3 1; ld 0 x; st 3 y; fence 3 3", other);
        ends("behind: a fence before", end, "yes no no", "set 3 1; fence 3 3; ld 0 x; st 3 y", other);
        ends("behind: a needed place behind", end, "yes no no",
            "set 3 1; ld 0 x; st 3 y; xor 2 0 0; ld 2 z+2", other);
        ends("behind: a fence behind, reads", "0:0=1 0:1=0", "yes no no",
            "ld 0 y; ld 1 x; fence 3 3", "set 3 1; st 3 x; fence 2 2; st 3 y");
        ends("behind: marks behind", end, "yes no no", "set 3 1; ld 0 x; st 3 y; ld 1 z aq", other);
    }

    /** Whether an end is possible in MODELS 0, 1 and 2. */
    private static void ends(String name, String end, String answers, String... programs) {
        Cases.test("promise 5, " + name, x -> {
            Texts.write(x, programs);
            Texts.duePossible(x, end, answers);
        });
    }
}
