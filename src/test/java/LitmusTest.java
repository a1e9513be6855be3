import java.util.List;

/**
 * Small programs whose outcomes are known, most of them from the literature on
 * weak memories: whether an end is possible in models 0, 1 and 2. Each of THE
 * RULES has at least one that would fail without it. Promises 5 to 9 and 11.
 *
 * A program is written as "ld 0 x; st 3 y+2 rl": place x, y or z, with +r for
 * the register of the place, then aq, rl or aqrl for the marks. An end is
 * written as "0:1=2 x=3": register 1 of hart 0 is 2, location x is 3.
 */
public final class LitmusTest {
    private static final List<String> KINDS =
        List.of("ld", "st", "swap", "adding", "res", "cond", "fence", "set", "add", "xor", "skip");
    private static int wrong = 0;
    private static LitmusRunner used = null;

    public static void main(String[] args) {
        classics();
        rule1();
        rule2();
        rule3();
        rule4();
        rules5To7();
        rules9And10();
        rule11();
        rule12();
        rule13();
        atomic();
        belonging();
        carrying();
        nothingHoldsBackwards();
        skipping();
        reckoning();
        counted();
        System.out.println(wrong == 0 ? "LitmusTest: all as due" : "LitmusTest: " + wrong + " wrong");
        if (wrong != 0) {
            System.exit(1);
        }
    }

    private static void classics() {
        ends("SB", "0:0=0 1:0=0", "yes yes no",
            "set 3 1; st 3 x; ld 0 y", "set 3 1; st 3 y; ld 0 x");
        ends("MP", "1:0=1 1:1=0", "yes no no",
            "set 3 1; st 3 x; st 3 y", "ld 0 y; ld 1 x");
        ends("LB", "0:0=1 1:0=1", "yes no no",
            "set 3 1; ld 0 x; st 3 y", "set 3 1; ld 0 y; st 3 x");
        ends("2+2W", "x=1 y=1", "yes no no",
            "set 0 1; set 1 2; st 0 x; st 1 y", "set 0 1; set 1 2; st 0 y; st 1 x");
        ends("S", "1:0=1 x=2", "yes no no",
            "set 0 2; set 1 1; st 0 x; st 1 y", "set 1 1; ld 0 y; st 1 x");
        ends("R", "1:0=0 y=2", "yes yes no",
            "set 3 1; st 3 x; st 3 y", "set 3 2; st 3 y; ld 0 x");
        ends("IRIW", "2:0=1 2:1=0 3:0=1 3:1=0", "yes no no",
            "set 3 1; st 3 x", "set 3 1; st 3 y", "ld 0 x; ld 1 y", "ld 0 y; ld 1 x");
        ends("IRIW+fences", "2:0=1 2:1=0 3:0=1 3:1=0", "no no no",
            "set 3 1; st 3 x", "set 3 1; st 3 y", "ld 0 x; fence 1 1; ld 1 y", "ld 0 y; fence 1 1; ld 1 x");
        ends("WRC+data+addr", "1:0=1 2:0=1 2:1=0", "no no no",
            "set 3 1; st 3 x", "ld 0 x; st 0 y", "ld 0 y; xor 2 0 0; ld 1 x+2");
    }

    private static void rule1() {
        ends("CoWW", "x=1", "no no no", "set 0 1; set 1 2; st 0 x; st 1 x");
        ends("CoRW1", "0:0=1", "no no no", "set 3 1; ld 0 x; st 3 x");
        ends("CoRW2", "0:0=2 x=2", "no no no", "set 3 1; ld 0 x; st 3 x", "set 3 2; st 3 x");
        ends("CoWR", "0:0=0", "no no no", "set 3 1; st 3 x; ld 0 x");
        ends("CoWR, another's", "0:0=2 x=1", "no no no", "set 3 1; st 3 x; ld 0 x", "set 3 2; st 3 x");
        ends("a swap behind a store", "x=1", "no no no", "set 0 1; set 1 2; st 0 x; swap 2 1 x");
        ends("a swap behind a load", "0:0=2", "no no no", "set 1 2; ld 0 x; swap 2 1 x");
    }

    private static void rule2() {
        ends("CoRR", "1:0=1 1:1=0", "no no no", "set 3 1; st 3 x", "ld 0 x; ld 1 x");
        ends("CoRR forwards", "1:0=0 1:1=1", "yes yes yes", "set 3 1; st 3 x", "ld 0 x; ld 1 x");
        ends("CoRR, a swap first", "1:0=2 1:1=1", "no no no",
            "set 3 2; st 3 x", "set 2 3; swap 0 2 x; ld 1 x");
        ends("RSW", "1:0=1 1:3=0", "yes no no",
            "set 3 1; st 3 x; fence 2 2; st 3 y",
            "ld 0 y; xor 1 0 0; ld 2 z+1; ld 3 z; xor 1 3 3; ld 3 x+1");
        ends("fri-rfi", "1:0=1 1:1=2 1:3=0", "yes no no",
            "set 3 1; st 3 x; fence 2 2; st 3 y",
            "set 3 2; ld 0 y; st 3 y; ld 1 y; xor 2 1 1; ld 3 x+2");
    }

    private static void rule3() {
        ends("SB+rfi", "0:0=1 0:1=0 1:0=0", "yes yes no",
            "set 3 1; st 3 x; ld 0 x; xor 2 0 0; ld 1 y+2", "set 3 1; st 3 y; fence 2 1; ld 0 x");
        ends("SB+rfi of a swap", "0:0=1 0:1=0 1:0=0", "no no no",
            "set 3 1; swap 2 3 x; ld 0 x; xor 2 0 0; ld 1 y+2", "set 3 1; st 3 y; fence 2 1; ld 0 x");
        ends("SB+rfi of an adding", "0:0=1 0:1=0 1:0=0", "no no no",
            "set 3 1; adding 2 3 x; ld 0 x; xor 2 0 0; ld 1 y+2", "set 3 1; st 3 y; fence 2 1; ld 0 x");
        ends("SB+rfi of a conditional", "0:0=1 0:2=0 0:1=0 1:0=0", "no no no",
            "set 3 1; res 1 x; cond 2 3 x; ld 0 x; xor 3 0 0; ld 1 y+3", "set 3 1; st 3 y; fence 2 1; ld 0 x");
        ends("SB with swaps", "0:0=0 1:0=0", "yes no no",
            "set 3 1; swap 1 3 x; ld 0 y", "set 3 1; swap 1 3 y; ld 0 x");
    }

    private static void rule4() {
        for (int first = 0; first <= 3; first++) {
            for (int second = 0; second <= 3; second++) {
                String fence = "fence " + first + " " + second + "; ";
                boolean ww = first >= 2 && second >= 2;
                boolean rr = first % 2 == 1 && second % 2 == 1;
                boolean wr = first >= 2 && second % 2 == 1;
                boolean rw = first % 2 == 1 && second >= 2;
                ends("MP+" + fence + "acquire", "1:0=1 1:1=0", ww ? "no no no" : "yes no no",
                    "set 3 1; st 3 x; " + fence + "st 3 y", "ld 0 y aq; ld 1 x");
                ends("MP+release+" + fence, "1:0=1 1:1=0", rr ? "no no no" : "yes no no",
                    "set 3 1; st 3 x; st 3 y rl", "ld 0 y; " + fence + "ld 1 x");
                ends("SB+" + fence, "0:0=0 1:0=0", wr ? "no no no" : "yes yes no",
                    "set 3 1; st 3 x; " + fence + "ld 0 y", "set 3 1; st 3 y; " + fence + "ld 0 x");
                ends("LB+" + fence, "0:0=1 1:0=1", rw ? "no no no" : "yes no no",
                    "set 3 1; ld 0 x; " + fence + "st 3 y", "set 3 1; ld 0 y; " + fence + "st 3 x");
                ends("SB, swaps first+" + fence, "0:0=0 1:0=0", wr || rr ? "no no no" : "yes no no",
                    "set 3 1; swap 1 3 x; " + fence + "ld 0 y", "set 3 1; swap 1 3 y; " + fence + "ld 0 x");
                ends("MP, a swap last+" + fence, "1:0=1 1:1=0", ww || wr ? "no no no" : "yes no no",
                    "set 3 1; st 3 x; " + fence + "swap 0 3 y", "ld 0 y aq; ld 1 x");
            }
        }
        ends("a fence left out", "1:0=1 1:1=0", "yes no no",
            "set 3 1; st 3 x; skip 0 1; fence 3 3; st 3 y", "ld 0 y; fence 3 3; ld 1 x");
        ends("a fence of another hart", "0:0=0 1:0=0", "yes yes no",
            "set 3 1; st 3 x; fence 3 3; ld 0 y", "set 3 1; st 3 y; ld 0 x");
    }

    private static void rules5To7() {
        ends("MP+rl+aq", "1:0=1 1:1=0", "no no no",
            "set 3 1; st 3 x; st 3 y rl", "ld 0 y aq; ld 1 x");
        ends("MP+rl", "1:0=1 1:1=0", "yes no no", "set 3 1; st 3 x; st 3 y rl", "ld 0 y; ld 1 x");
        ends("MP+aq", "1:0=1 1:1=0", "yes no no", "set 3 1; st 3 x; st 3 y", "ld 0 y aq; ld 1 x");
        ends("MP, marks the wrong way", "1:0=1 1:1=0", "yes no no",
            "set 3 1; st 3 x rl; st 3 y", "ld 0 y; ld 1 x aq");
        ends("LB+aq", "0:0=1 1:0=1", "no no no",
            "set 3 1; ld 0 x aq; st 3 y", "set 3 1; ld 0 y aq; st 3 x");
        ends("LB+rl", "0:0=1 1:0=1", "no no no",
            "set 3 1; ld 0 x; st 3 y rl", "set 3 1; ld 0 y; st 3 x rl");
        ends("SB+rl+aq", "0:0=0 1:0=0", "no no no",
            "set 3 1; st 3 x rl; ld 0 y aq", "set 3 1; st 3 y rl; ld 0 x aq");
        ends("SB+rl", "0:0=0 1:0=0", "yes yes no",
            "set 3 1; st 3 x rl; ld 0 y", "set 3 1; st 3 y rl; ld 0 x");
        ends("SB+aq", "0:0=0 1:0=0", "yes yes no",
            "set 3 1; st 3 x; ld 0 y aq", "set 3 1; st 3 y; ld 0 x aq");
        ends("SB+aqrl loads", "0:0=0 1:0=0", "no no no",
            "set 3 1; st 3 x; ld 0 y aqrl", "set 3 1; st 3 y; ld 0 x aqrl");
        ends("SB, swaps aq", "0:0=0 1:0=0", "no no no",
            "set 3 1; swap 1 3 x aq; ld 0 y", "set 3 1; swap 1 3 y aq; ld 0 x");
        ends("SB, swaps rl", "0:0=0 1:0=0", "yes no no",
            "set 3 1; swap 1 3 x rl; ld 0 y", "set 3 1; swap 1 3 y rl; ld 0 x");
        ends("SB, swaps rl, loads aq", "0:0=0 1:0=0", "no no no",
            "set 3 1; swap 1 3 x rl; ld 0 y aq", "set 3 1; swap 1 3 y rl; ld 0 x aq");
        ends("MP, a conditional with rl", "0:1=0 1:0=1 1:1=0", "no no no",
            "set 3 1; st 3 x; res 0 y; cond 1 3 y rl", "ld 0 y aq; ld 1 x");
        ends("MP, a reserve with aq", "1:0=1 1:1=0", "no no no",
            "set 3 1; st 3 x; st 3 y rl", "res 0 y aq; ld 1 x");
    }

    private static void rules9And10() {
        ends("MP+addr", "1:0=1 1:1=0", "no no no",
            "set 3 1; st 3 x; fence 2 2; st 3 y", "ld 0 y; xor 2 0 0; ld 1 x+2");
        ends("LB+addrs", "0:0=1 1:0=1", "no no no",
            "set 3 1; ld 0 x; xor 2 0 0; st 3 y+2", "set 3 1; ld 0 y; xor 2 0 0; st 3 x+2");
        ends("LB+datas", "0:0=1 1:0=1", "no no no", "ld 0 x; st 0 y", "ld 0 y; st 0 x");
        ends("LB+datas by xor", "0:0=1 1:0=1", "no no no",
            "set 3 1; ld 0 x; xor 2 0 0; add 1 3 2; st 1 y", "set 3 1; ld 0 y; xor 2 0 0; add 1 2 3; st 1 x");
        ends("LB+data+po", "0:0=1 1:0=1", "yes no no", "ld 0 x; st 0 y", "set 3 1; ld 0 y; st 3 x");
        ends("LB+data of a swap", "0:0=1 1:0=1", "no no no", "ld 0 x; swap 2 0 y", "ld 0 y; swap 2 0 x");
        ends("a swap does not need what it sets", "0:1=1 1:0=1", "yes no no",
            "set 3 1; ld 0 x; add 1 0 2; swap 0 3 y", "ld 0 y; st 0 x");
        ends("a load does not need what it sets", "1:1=1 1:0=0", "yes no no",
            "set 3 1; st 3 x; fence 2 2; st 3 y", "ld 0 y; add 1 0 2; ld 0 x");
    }

    private static void rule11() {
        ends("LB+ctrls", "0:0=1 1:0=1", "no no no",
            "set 3 1; ld 0 x; skip 0 1; st 3 y", "set 3 1; ld 0 y; skip 0 1; st 3 x");
        ends("LB+ctrls, behind what is left out", "0:0=1 1:0=1", "no no no",
            "set 3 1; ld 0 x; skip 0 1; set 2 1; st 3 y", "set 3 1; ld 0 y; skip 0 1; set 2 1; st 3 x");
        ends("LB+ctrls of nought", "0:0=1 1:0=1", "no no no",
            "set 3 1; ld 0 x; xor 2 0 0; skip 2 1; set 2 1; st 3 y",
            "set 3 1; ld 0 y; xor 2 0 0; skip 2 1; set 2 1; st 3 x");
        ends("LB+ctrls, two skips", "0:0=1 1:0=1", "no no no",
            "set 3 1; ld 0 x; skip 0 1; skip 3 1; st 3 y", "set 3 1; ld 0 y; skip 0 1; skip 3 1; st 3 x");
        ends("LB+ctrl, another register", "0:0=1 1:0=1", "yes no no",
            "set 3 1; ld 0 x; skip 3 1; st 3 y", "set 3 1; ld 0 y; skip 0 1; st 3 x");
        ends("LB+ctrl left out", "0:0=1 1:0=1", "yes no no",
            "set 3 1; ld 0 x; skip 1 1; skip 0 1; st 3 y", "set 3 1; ld 0 y; skip 0 1; st 3 x");
        ends("MP+ctrl", "1:0=1 1:1=0", "yes no no",
            "set 3 1; st 3 x; fence 2 2; st 3 y", "ld 0 y; skip 0 1; ld 1 x");
        ends("what a skip's register carried then", "0:0=1 1:0=1", "no no no",
            "set 3 1; ld 0 x; skip 0 1; set 0 1; st 3 y", "set 3 1; ld 0 y; skip 0 1; set 0 1; st 3 x");
    }

    private static void rule12() {
        String writer = "set 3 1; st 3 x; fence 2 2; st 3 y";
        ends("a forwarded value", "1:0=1 1:1=1 1:3=0", "no no no",
            writer, "ld 0 y; st 0 z; ld 1 z; xor 2 1 1; ld 3 x+2");
        ends("a forwarded place", "1:0=1 1:1=0", "no no no",
            writer, "ld 0 y; xor 2 0 0; st 3 z+2; ld 1 z; xor 2 1 1; ld 1 x+2");
        ends("PPOCA", "1:0=1 1:1=0", "yes no no",
            writer, "ld 0 y; skip 0 1; st 3 z; ld 1 z; xor 2 1 1; ld 1 x+2");
        ends("a forwarded value, not needed", "1:0=1 1:2=0", "yes no no",
            writer, "ld 0 y; st 3 z; ld 1 z; xor 2 1 1; ld 2 x+2");
    }

    private static void rule13() {
        ends("LB+addr-po", "0:0=1 1:0=1", "no no no",
            "set 3 1; ld 0 x; xor 2 0 0; ld 1 z+2; st 3 y", "set 3 1; ld 0 y; fence 1 2; st 3 x");
        ends("LB+addr of a write-po", "0:0=1 1:0=1", "no no no",
            "set 3 1; ld 0 x; xor 2 0 0; st 3 z+2; st 3 y", "set 3 1; ld 0 y; fence 1 2; st 3 x");
        ends("LB+data-po", "0:0=1 1:0=1", "yes no no",
            "set 3 1; ld 0 x; st 0 z; st 3 y", "set 3 1; ld 0 y; fence 1 2; st 3 x");
        ends("MP+addr-po", "1:0=1 1:1=0", "yes no no",
            "set 3 1; st 3 x; fence 2 2; st 3 y", "ld 0 y; xor 2 0 0; ld 2 z+2; ld 1 x");
        ends("LB+po-addr", "0:0=1 1:0=1", "yes no no",
            "set 3 1; ld 0 x; st 3 y; xor 2 0 0; ld 1 z+2", "set 3 1; ld 0 y; fence 1 2; st 3 x");
    }

    private static void atomic() {
        ends("another's write between", "0:0=0 0:1=0 x=1", "no no no",
            "set 3 1; res 0 x; cond 1 3 x", "set 3 2; st 3 x");
        ends("another's write behind", "0:0=0 0:1=0 x=2", "yes yes yes",
            "set 3 1; res 0 x; cond 1 3 x", "set 3 2; st 3 x");
        ends("another's write before", "0:0=2 0:1=0 x=1", "yes yes yes",
            "set 3 1; res 0 x; cond 1 3 x", "set 3 2; st 3 x");
        ends("it may fail", "0:0=2 0:1=1 x=2", "yes yes yes",
            "set 3 1; res 0 x; cond 1 3 x", "set 3 2; st 3 x");
        ends("two that both pass", "0:0=0 0:1=0 1:0=0 1:1=0", "no no no",
            "set 3 1; res 0 x; cond 1 3 x", "set 3 2; res 0 x; cond 1 3 x");
        ends("another's swap between", "0:0=0 0:1=0 1:0=0 x=1", "no no no",
            "set 3 1; res 0 x; cond 1 3 x", "set 3 2; swap 0 3 x");
        ends("an own write between", "0:0=0 0:1=0 x=1", "yes yes yes",
            "set 3 1; res 0 x; st 3 x; cond 1 3 x");
        ends("another location's write between", "0:1=0 0:2=1", "yes yes yes",
            "set 3 1; res 0 x; ld 2 y aq; cond 1 3 x", "set 3 1; st 3 y");
        // The reserve reads its own hart's store before others see that.
        ends("from the source on", "0:0=1 0:1=0 1:0=1 x=2", "yes no no",
            "set 3 1; st 3 x; res 0 x; st 0 y; set 2 2; cond 1 2 x", "ld 0 y; st 0 x");
    }

    private static void belonging() {
        ends("none", "0:0=0", "no no no", "cond 0 3 x");
        ends("none: it fails", "0:0=1 x=0", "yes yes yes", "set 3 1; cond 0 3 x");
        ends("a conditional", "0:1=0", "no no no", "set 1 1; res 0 x; cond 2 3 x; cond 1 3 x");
        ends("a conditional, which failed", "0:2=1 0:1=0", "no no no", "set 1 1; res 0 x; cond 2 3 x; cond 1 3 x");
        ends("another location", "0:1=0", "no no no", "res 0 x; cond 1 3 y");
        ends("the same location by a register", "0:1=0 y=1", "yes yes yes", "set 3 1; res 0 x+3; cond 1 3 y");
        ends("another location by a register", "0:1=0", "no no no", "set 3 1; res 0 x; cond 1 3 x+3");
        ends("the last reserve", "0:2=0 y=1", "yes yes yes", "set 3 1; res 0 x; res 0 y; cond 2 3 y");
        ends("not the first reserve", "0:2=0", "no no no", "set 3 1; res 0 x; res 0 y; cond 2 3 x");
        ends("a reserve left out", "0:2=0", "no no no", "skip 0 1; res 0 x; cond 2 3 x");
        ends("a conditional left out", "0:2=0 x=1", "yes yes yes",
            "set 3 1; res 0 x; skip 2 1; cond 1 3 x; cond 2 3 x");
        ends("a load and a store between", "0:2=0 x=1", "yes yes yes",
            "set 3 1; res 0 x; ld 1 y; st 3 z; cond 2 3 x");
        ends("another hart's reserve", "1:2=0", "no no no", "res 0 x", "cond 2 3 x");
        ends("anew", "0:1=0 0:2=0 x=2", "yes yes yes",
            "set 3 2; res 0 x; cond 1 3 x; res 0 x; cond 2 3 x");
    }

    private static void carrying() {
        ends("SET carries none", "0:0=1 1:0=1", "yes no no",
            "ld 0 x; st 0 y", "ld 1 y; add 0 1 1; set 0 1; st 0 x; add 0 1 2");
        // What a conditional sets stands behind the conditional, which stands behind its reserve.
        ends("a conditional that passes", "0:1=0 1:0=1 1:1=0", "no no no",
            "set 3 1; res 0 x; cond 1 3 x; add 2 3 1; st 2 y", "ld 0 y aq; ld 1 x");
        ends("a conditional that fails", "0:0=1 0:1=1 1:0=1", "yes no no",
            "set 3 1; res 0 x; cond 1 0 x; st 1 y", "ld 0 y; st 0 x");
        ends("a conditional that fails, into a register that carried", "0:0=1 0:1=1 1:0=1", "yes no no",
            "res 0 x; add 1 0 2; cond 1 3 x; st 1 y", "ld 0 y; st 0 x");
        ends("a swap's register", "0:0=1 1:0=1", "no no no",
            "set 3 2; swap 0 3 z; st 0 y", "ld 0 y; st 0 z");
        ends("both registers of ADD", "0:0=1 1:0=1", "no no no",
            "set 3 1; ld 0 x; xor 1 0 0; add 2 1 3; st 2 y", "set 3 1; ld 0 y; xor 1 0 0; add 2 3 1; st 2 x");
        ends("both registers of XOR", "0:0=1 1:0=1", "no no no",
            "set 3 1; ld 0 x; xor 1 0 0; xor 2 1 3; st 2 y", "set 3 1; ld 0 y; xor 1 0 0; xor 2 3 1; st 2 x");
    }

    /** What comes behind two accesses in a program says nothing of them. */
    private static void nothingHoldsBackwards() {
        String other = "ld 0 y; st 0 x";
        String end = "0:0=1 1:0=1";
        ends("a dependency behind", end, "yes no no", "set 3 1; ld 0 x; st 3 y+2; xor 2 0 0", other);
        ends("a skip behind", end, "yes no no", "set 3 1; ld 0 x; st 3 y; skip 0 1; set 1 1", other);
        ends("a fence behind", end, "yes no no", "set 3 1; ld 0 x; st 3 y; fence 3 3", other);
        ends("a fence before", end, "yes no no", "set 3 1; fence 3 3; ld 0 x; st 3 y", other);
        ends("a needed place behind", end, "yes no no",
            "set 3 1; ld 0 x; st 3 y; xor 2 0 0; ld 2 z+2", other);
        ends("a fence behind, reads", "0:0=1 0:1=0", "yes no no",
            "ld 0 y; ld 1 x; fence 3 3", "set 3 1; st 3 x; fence 2 2; st 3 y");
        ends("marks behind", end, "yes no no", "set 3 1; ld 0 x; st 3 y; ld 1 z aq", other);
    }

    private static void skipping() {
        all("SKIP of 0", "skip 0 2; set 1 1; set 2 1; set 3 1", end("0:3=1"));
        all("SKIP of another", "set 0 2; skip 0 2; set 1 1; set 2 1; set 3 1", end("0:0=2 0:1=1 0:2=1 0:3=1"));
        all("SKIP of more than there are", "set 1 3; skip 0 5; set 1 1", end("0:1=3"));
        all("SKIP of all", "skip 0 5; set 0 1; set 1 1; set 2 1; set 3 1; set 0 2", end(""));
        all("SKIP left out", "skip 0 1; skip 0 3; set 1 1; set 2 1; set 3 1", end("0:1=1 0:2=1 0:3=1"));
        all("an access left out", "set 1 1; skip 0 1; st 1 x", end("0:1=1"));
    }

    private static void reckoning() {
        all("ADD", "set 0 3; set 1 2; add 2 0 1; add 3 0 0", end("0:0=3 0:1=2 0:2=1 0:3=2"));
        all("XOR", "set 0 3; set 1 2; xor 2 0 1; xor 3 0 0", end("0:0=3 0:1=2 0:2=1"));
        all("ADD to itself", "set 0 3; add 0 0 0", end("0:0=2"));
        all("ADDING", "set 0 3; st 0 x; adding 1 0 x; adding 0 0 x", end("0:0=2 0:1=3 x=1"));
        all("SWAP", "set 0 3; set 1 1; st 0 x; swap 1 1 x; swap 0 0 x", end("0:0=1 0:1=3 x=3"));
        all("LOAD by its own register", "set 0 3; set 1 2; st 0 y; st 1 x; ld 1 z+1", end("0:0=3 0:1=3 x=2 y=3"));
        all("places go round", "set 0 3; set 1 2; st 0 x+0; st 1 z+1; st 0 z+0", end("0:0=3 0:1=2 x=3 y=2 z=3"));
        all("a place of 2 and 2", "set 1 2; st 1 z+1", end("0:1=2 y=2"));
        all("a conditional's register is its value's", "set 3 2; cond 3 3 x", end("0:3=1"));
        LitmusRunner x = made("set 3 1; adding 0 3 x", "set 3 1; adding 0 3 x", "set 3 1; adding 0 3 x");
        due("three addings", x.find(), 6);
        due("three addings: sum", x.with(16, 3), 6);
        due("three addings: who was first", x.both(0, 0, 4, 1), 1);
        due("three addings: two were first", x.both(0, 0, 4, 0), 0);
        due("three addings: ways", x.count(5), 6);
        LitmusRunner y = made("set 0 1; set 3 2", "set 1 1", "set 2 1", "set 3 3; st 3 z");
        due("powers of four", y.find(), 1);
        due("powers of four", y.outcome(0),
            1L + 2L * (1 << 6) + (1L << 10) + (1L << 20) + 3L * (1L << 30) + 3L * (1L << 36));
    }

    private static void counted() {
        LitmusRunner x = made("set 3 1; st 3 x; st 3 x", "ld 0 x");
        due("same values, each once", x.find(), 2);
        due("same values, ways", x.count(5), 2);
        x = made("set 0 1; st 0 x", "set 0 2; st 0 x");
        due("one way, two ends", x.find(), 2);
        due("one way", x.count(5), 1);
        x = made("set 3 1; st 3 x", "ld 0 x; set 0 0");
        due("two ways, one end", x.find(), 1);
        due("two ways", x.count(5), 2);
        x = made("res 0 x; cond 1 3 x; set 1 0");
        due("fails or not, one end", x.find(), 1);
        due("fails or not", x.count(5), 2);
        x = made("cond 1 3 x");
        due("it must fail", x.find(), 1);
        due("it must fail: one way", x.count(5), 1);
        x = made("set 3 1; st 3 x", "ld 0 x; skip 0 1; ld 1 x; set 0 0; set 1 0");
        due("reads left out, one end", x.find(), 1);
        due("reads left out", x.count(5), 2);
        x = made("");
        due("no program", x.find(), 1);
        due("no program: one way", x.count(5), 1);
        due("no program: all is 0", x.outcome(0), 0);
    }

    // ---- how it is asked ----

    private static void ends(String name, String end, String answers, String... programs) {
        LitmusRunner x = made(programs);
        String[] answer = answers.split(" ");
        for (int m = 0; m < 3; m++) {
            x.model(m);
            int found = x.find();
            boolean any = false;
            for (int i = 0; i < found; i++) {
                any |= isEnd(x.outcome(i), end);
                due(name + ": order", i == 0 || x.outcome(i - 1) < x.outcome(i) ? 1 : 0, 1);
            }
            due(name + ", model " + m + ": " + end, any ? 1 : 0, answer[m].equals("yes") ? 1 : 0);
        }
    }

    private static void all(String name, String program, long end) {
        LitmusRunner x = made(program);
        for (int m = 0; m < 3; m++) {
            x.model(m);
            due(name, x.find(), 1);
            due(name, x.outcome(0), end);
            due(name, x.is(end), 1);
        }
    }

    private static boolean isEnd(long outcome, String end) {
        for (String part : end.split(" ")) {
            int shift = 2 * what(part);
            if ((outcome >> shift & 3) != value(part)) {
                return false;
            }
        }
        return true;
    }

    private static long end(String end) {
        long outcome = 0;
        for (String part : end.isEmpty() ? new String[0] : end.split(" ")) {
            outcome += (long) value(part) << 2 * what(part);
        }
        return outcome;
    }

    private static int what(String part) {
        char c = part.charAt(0);
        return c >= 'x' ? 16 + c - 'x' : 4 * (c - '0') + part.charAt(2) - '0';
    }

    private static int value(String part) {
        return part.charAt(part.length() - 1) - '0';
    }

    /** Every second program is made on the object of the one before, which must leave nothing behind. */
    private static LitmusRunner made(String... programs) {
        LitmusRunner x = used == null ? new LitmusRunner() : used;
        used = used == null ? x : null;
        x.clear();
        x.model(0);
        for (int h = 0; h < programs.length; h++) {
            for (String line : programs[h].isEmpty() ? new String[0] : programs[h].split(";")) {
                add(x, h, line.trim());
            }
        }
        return x;
    }

    private static void add(LitmusRunner x, int hart, String line) {
        String[] words = line.split(" ");
        int[] n = new int[6];
        int size = 0;
        for (int i = 1; i < words.length; i++) {
            String word = words[i];
            if (word.charAt(0) >= 'x') {
                n[size++] = word.charAt(0) - 'x';
                n[size++] = word.length() > 1 ? word.charAt(2) - '0' : -1;
            } else if (word.charAt(0) >= 'a') {
                n[size++] = (word.startsWith("aq") ? 1 : 0) + (word.endsWith("rl") ? 2 : 0);
            } else {
                n[size++] = Integer.parseInt(word);
            }
        }
        int number = x.add(hart, KINDS.indexOf(words[0]), n[0], n[1], n[2], n[3], n[4]);
        due("add of " + line, number < 0 ? number : 0, 0);
    }

    private static void due(String what, long got, long want) {
        if (got != want) {
            wrong++;
            System.out.println(what + " answered " + got + ", due is " + want);
        }
    }
}
