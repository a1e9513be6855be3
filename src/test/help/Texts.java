import java.util.List;

/**
 * Programs and ends as texts.
 *
 * A program is written as "ld 0 x; st 3 y+2 rl": place x, y or z, with +r for
 * the register of the place, then aq, rl or aqrl for the marks. An end is
 * written as "0:1=2 x=3": register 1 of hart 0 is 2, location x is 3.
 */
final class Texts {
    private static final List<String> KINDS =
        List.of("ld", "st", "swap", "adding", "res", "cond", "fence", "set", "add", "xor", "skip");

    private Texts() {
    }

    /** Programs of harts 0, 1, ..., each behind what its hart has. */
    static void write(LitmusRunner x, String... programs) {
        for (int hart = 0; hart < programs.length; hart++) {
            for (String line : programs[hart].isEmpty() ? new String[0] : programs[hart].split(";")) {
                int number = add(x, hart, line.trim());
                Cases.due("add of " + line, number < 0 ? number : 0, 0);
            }
        }
    }

    /** One instruction: what add answers. */
    static int add(LitmusRunner x, int hart, String line) {
        String[] words = line.split(" ");
        int[] n = new int[6];
        int size = 0;
        for (int i = 1; i < words.length; i++) {
            String word = words[i];
            if (word.charAt(0) >= 'x') {
                n[size++] = word.charAt(0) - 'x';
                n[size++] = word.length() > 1 ? word.charAt(2) - '0' : -1;
            } else if (word.charAt(0) >= 'a') {
                n[size++] = (word.startsWith("aq") ? 1 : 0) + (word.endsWith("rl") ? 2 : 0);
            } else {
                n[size++] = Integer.parseInt(word);
            }
        }
        return x.add(hart, KINDS.indexOf(words[0]), n[0], n[1], n[2], n[3], n[4]);
    }

    /** The OUTCOME that is told, with 0 in all that is not. */
    static long outcome(String end) {
        long outcome = 0;
        for (String part : end.isEmpty() ? new String[0] : end.split(" ")) {
            outcome += (long) valueIn(part) << 2 * whatIn(part);
        }
        return outcome;
    }

    /** Whether an OUTCOME has all that is told. */
    static boolean isEnd(long outcome, String end) {
        for (String part : end.split(" ")) {
            if ((outcome >> 2 * whatIn(part) & 3) != valueIn(part)) {
                return false;
            }
        }
        return true;
    }

    /** In each MODEL just these OUTCOMES are found, in this order. */
    static void dueEnds(LitmusRunner x, String... ends) {
        for (int m = 0; m < 3; m++) {
            x.model(m);
            Cases.due("find() in MODEL " + m, x.find(), ends.length);
            for (int i = 0; i < ends.length; i++) {
                Cases.due("outcome(" + i + ") in MODEL " + m, x.outcome(i), outcome(ends[i]));
            }
        }
    }

    /** Whether an end is possible in MODELS 0, 1 and 2: "yes no no" or the like. */
    static void duePossible(LitmusRunner x, String end, String answers) {
        String[] answer = answers.split(" ");
        for (int m = 0; m < 3; m++) {
            x.model(m);
            int found = x.find();
            boolean any = false;
            long last = -1;
            for (int i = 0; i < found; i++) {
                long outcome = x.outcome(i);
                any |= isEnd(outcome, end);
                Cases.due("outcome(" + i + ") is more than the one before", outcome > last ? 1 : 0, 1);
                last = outcome;
            }
            Cases.due(end + " in MODEL " + m, any ? 1 : 0, answer[m].equals("yes") ? 1 : 0);
        }
    }

    private static int whatIn(String part) {
        char c = part.charAt(0);
        return c >= 'x' ? 16 + c - 'x' : 4 * (c - '0') + part.charAt(2) - '0';
    }

    private static int valueIn(String part) {
        return part.charAt(part.length() - 1) - '0';
    }
}
