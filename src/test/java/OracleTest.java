import java.util.ArrayList;
import java.util.HashSet;
import java.util.List;
import java.util.Set;
import java.util.TreeSet;

/**
 * Many programs, each answered as the document's words say it, without any
 * thought for speed: all values of all READS, all orders, each rule by itself.
 */
public final class OracleTest {
    private static final int NO = -1;
    private static long seed = 20261115;
    // An object is used for one program after another, which must leave nothing behind.
    private static LitmusRunner used = null;
    private static int made = 0;

    public static void main(String[] args) {
        int rounds = args.length > 0 ? Integer.parseInt(args[0]) : 1500;
        seed += args.length > 1 ? Long.parseLong(args[1]) : 0;
        Cases.test("promises 4 to 9 and 11: as the document's words say it", x -> {
            check(-1, manyOutcomes());
            check(-2, manyChoices());
            for (int round = 0; round < rounds && Cases.wrong() == 0; round++) {
                check(round, round % 2 == 0 ? chains() : program(round));
            }
        });
        Cases.finish("OracleTest");
    }

    /** An instruction as it was done, with all that the document says of it. */
    private static final class Done {
        int hart, spot, kind, location, marks, got, put, fenceFirst, fenceSecond;
        boolean access, reads, writes;
        Set<Done> byPlace = new HashSet<>(), byValue = new HashSet<>(), byWay = new HashSet<>();
        Done belongs;
        // of an order:
        int at;
        Done source;
    }

    private static final class Execution {
        List<Done> all = new ArrayList<>();
        List<Done> accesses = new ArrayList<>();
        long registers;
        String key = "";
        boolean refused;
    }

    // ---- programs ----

    private static int random(int below) {
        seed = seed * 6364136223846793005L + 1442695040888963407L;
        return (int) ((seed >>> 33) % below);
    }

    private static int oneOf(int... choices) {
        return choices[random(choices.length)];
    }

    private static List<int[]> program(int round) {
        List<int[]> rows = new ArrayList<>();
        int harts = 1 + random(round % 5 == 0 ? 4 : 3);
        int locations = 1 + random(3);
        int accesses = 0;
        int readers = 0;
        int most = round % 25 == 0 ? 6 : 3 + random(3);
        int mostReaders = most == 6 ? 4 : 3;
        boolean reserves = random(3) == 0;
        for (int h = 0; h < harts; h++) {
            if (random(4) != 0) {
                rows.add(new int[] {h, 7, 3, 1 + random(3), 0, 0, 0});
            }
        }
        for (int n = 0; n < 16; n++) {
            int[] row = instruction(random(harts), locations, reserves);
            boolean access = row[1] <= 5;
            boolean reader = row[1] == 0 || row[1] == 2 || row[1] == 3 || row[1] == 4;
            if (access && accesses >= most || reader && readers >= mostReaders) {
                continue;
            }
            accesses += access ? 1 : 0;
            readers += reader ? 1 : 0;
            rows.add(row);
        }
        return rows;
    }

    private static List<int[]> manyOutcomes() {
        return List.of(
            new int[] {0, 7, 3, 2, 0, 0, 0}, new int[] {1, 7, 3, 3, 0, 0, 0},
            new int[] {2, 7, 3, 1, 0, 0, 0}, new int[] {3, 7, 3, 2, 0, 0, 0},
            new int[] {0, 2, 1, 1, 1, 1, 0}, new int[] {1, 2, 2, 3, 1, -1, 0},
            new int[] {0, 2, 0, 2, 1, -1, 0}, new int[] {1, 2, 0, 3, 1, 1, 0},
            new int[] {3, 1, 3, 1, -1, 0, 0}, new int[] {2, 1, 3, 1, -1, 0, 0});
    }

    /** As many reads as fit, and as many that may FAIL as fit beside them. */
    private static List<int[]> manyChoices() {
        return List.of(
            new int[] {0, 7, 3, 3, 0, 0, 0}, new int[] {1, 7, 3, 3, 0, 0, 0},
            new int[] {0, 4, 0, 0, -1, 0, 0}, new int[] {0, 5, 1, 3, 0, -1, 0},
            new int[] {1, 4, 0, 0, -1, 0, 0}, new int[] {1, 5, 1, 3, 0, -1, 0},
            new int[] {2, 0, 0, 0, -1, 0, 0}, new int[] {3, 0, 0, 0, -1, 0, 0});
    }

    /**
     * Two or three harts, each with accesses to two or three locations in its
     * own order and something between them that may hold them in order: where
     * the models differ.
     */
    private static List<int[]> chains() {
        List<int[]> rows = new ArrayList<>();
        int harts = oneOf(2, 2, 2, 3);
        int third = random(2);
        for (int h = 0; h < harts; h++) {
            rows.add(new int[] {h, 7, 3, 1 + random(2), 0, 0, 0});
            int x = (h + random(2)) % 2;
            firstAccess(rows, h, x);
            if (third == h) {
                link(rows, h, 2);
            }
            link(rows, h, random(8) == 0 ? x : 1 - x);
        }
        return rows;
    }

    private static void firstAccess(List<int[]> rows, int h, int x) {
        int kind = oneOf(0, 0, 0, 1, 1, 1, 2, 3, 4);
        if (kind == 2 || kind == 3) {
            rows.add(new int[] {h, kind, 0, 3, x, -1, oneOf(0, 0, 1, 2, 3)});
        } else if (kind == 4) {
            rows.add(new int[] {h, 4, 0, x, -1, oneOf(0, 0, 1, 3), 0});
            rows.add(new int[] {h, 5, 2, 3, x, -1, oneOf(0, 0, 1, 2, 3)});
        } else {
            rows.add(new int[] {h, kind, kind == 0 ? 0 : 3, x, -1, kind == 0 ? oneOf(0, 0, 0, 1, 3) : oneOf(0, 0, 2), 0});
        }
        if (random(4) == 0) {
            rows.add(new int[] {h, 0, random(2), x, -1, 0, 0});
        }
    }

    /** Something that joins what register 0 or 2 carries to the next access, or does not. */
    private static void link(List<int[]> rows, int h, int x) {
        int from = oneOf(0, 0, 0, 2);
        int y = -1;
        int value = 3;
        switch (random(7)) {
            case 0:
                rows.add(new int[] {h, 6, random(4), random(4), 0, 0, 0});
                break;
            case 1:
                rows.add(new int[] {h, 9, 1, from, from, 0, 0});
                y = 1;
                break;
            case 2:
                rows.add(new int[] {h, 10, from, 1 + random(2), 0, 0, 0});
                break;
            case 3:
                value = from;
                break;
            case 4:
                rows.add(new int[] {h, oneOf(8, 9), 1, from, 3, 0, 0});
                value = 1;
                break;
            default:
                break;
        }
        int kind = oneOf(0, 0, 0, 1, 1, 1, 2, 3);
        if (kind >= 2) {
            rows.add(new int[] {h, kind, oneOf(0, 1, 2), value, x, y, oneOf(0, 0, 0, 1, 2, 3)});
        } else if (kind == 1) {
            rows.add(new int[] {h, 1, value, x, y, oneOf(0, 0, 2), 0});
        } else {
            rows.add(new int[] {h, 0, oneOf(0, 1, 2), x, y, oneOf(0, 0, 1), 0});
        }
    }

    private static int[] instruction(int h, int locations, boolean reserves) {
        int kind = reserves
            ? oneOf(0, 1, 1, 2, 3, 4, 4, 5, 5, 5, 6, 7, 8, 10)
            : oneOf(0, 0, 0, 1, 1, 1, 1, 2, 3, 6, 6, 7, 8, 9, 10);
        int x = random(locations);
        int y = random(4) == 0 ? random(4) : -1;
        int r = random(4);
        int s = random(4);
        switch (kind) {
            case 0:
            case 4:
                return new int[] {h, kind, r, x, y, oneOf(0, 0, 0, 1, 3), 0};
            case 1:
                return new int[] {h, kind, oneOf(3, 3, r), x, y, oneOf(0, 0, 0, 2), 0};
            case 2:
            case 3:
            case 5:
                return new int[] {h, kind, r, oneOf(3, 3, s), x, y, oneOf(0, 0, 0, 1, 2, 3)};
            case 6:
                return new int[] {h, kind, r, s, 0, 0, 0};
            case 7:
                return new int[] {h, kind, r, s, 0, 0, 0};
            case 10:
                return new int[] {h, kind, r, 1 + random(5), 0, 0, 0};
            default:
                return new int[] {h, kind, r, s, random(4), 0, 0};
        }
    }

    // ---- one program, in all models ----

    private static void check(int round, List<int[]> rows) {
        makeReady(rows.size() + 1);
        List<List<int[]>> programs = write(rows);
        List<TreeSet<Long>> outcomes = List.of(new TreeSet<>(), new TreeSet<>(), new TreeSet<>());
        List<Set<String>> ways = List.of(new HashSet<>(), new HashSet<>(), new HashSet<>());
        answer(programs, outcomes, ways);
        for (int m = 0; m < 3; m++) {
            if (makeReady(2 * outcomes.get(m).size() + 20)) {
                made += rows.size() + 1;
                write(rows);
            }
            used.model(m);
            String where = "round " + round + ", model " + m + ": ";
            Cases.due(where + "find", used.find(), outcomes.get(m).size());
            Cases.due(where + "ways", used.count(5), ways.get(m).size());
            compare(where, outcomes.get(m));
            if (Cases.wrong() != 0) {
                rows.forEach(row -> System.out.println(java.util.Arrays.toString(row)));
                return;
            }
        }
    }

    /** Counts calls; a new object, and true, where the one in use would have more than 512. */
    private static boolean makeReady(int calls) {
        boolean isNew = used == null || made + calls > 512;
        used = isNew ? new LitmusRunner() : used;
        made = isNew ? calls : made + calls;
        return isNew;
    }

    /** The programs, each of the instructions that were taken. */
    private static List<List<int[]>> write(List<int[]> rows) {
        used.clear();
        List<List<int[]>> programs = List.of(
            new ArrayList<>(), new ArrayList<>(), new ArrayList<>(), new ArrayList<>());
        for (int[] row : rows) {
            int number = used.add(row[0], row[1], row[2], row[3], row[4], row[5], row[6]);
            if (number >= 0) {
                programs.get(row[0]).add(row);
            }
        }
        return programs;
    }

    private static void compare(String where, TreeSet<Long> outcomes) {
        int i = 0;
        for (long outcome : outcomes) {
            Cases.due(where + "outcome", used.outcome(i++), outcome);
            long near = outcome + random(2);
            Cases.due(where + "is", used.is(near), outcomes.contains(near) ? 1 : 0);
        }
        Cases.due(where + "outcome behind the last", used.outcome(i), -1);
        for (int n = 0; n < 8; n++) {
            int what = random(19);
            int other = random(19);
            int value = random(4);
            int otherValue = random(4);
            int with = 0;
            int both = 0;
            for (long outcome : outcomes) {
                with += part(outcome, what) == value ? 1 : 0;
                both += part(outcome, what) == value && part(outcome, other) == otherValue ? 1 : 0;
            }
            Cases.due(where + "with", used.with(what, value), with);
            Cases.due(where + "both", used.both(what, value, other, otherValue), both);
        }
    }

    private static int part(long outcome, int what) {
        for (int i = 0; i < what; i++) {
            outcome /= 4;
        }
        return (int) (outcome % 4);
    }

    // ---- what the document says ----

    private static void answer(List<List<int[]>> programs, List<TreeSet<Long>> outcomes, List<Set<String>> ways) {
        int readers = 0;
        int conditionals = 0;
        for (List<int[]> program : programs) {
            for (int[] row : program) {
                readers += row[1] == 0 || row[1] == 2 || row[1] == 3 || row[1] == 4 ? 1 : 0;
                conditionals += row[1] == 5 ? 1 : 0;
            }
        }
        Set<String> seen = new HashSet<>();
        for (int values = 0; values < 1 << 2 * readers; values++) {
            for (int fails = 0; fails < 1 << conditionals; fails++) {
                Execution e = execute(programs, values, fails);
                if (!e.refused && seen.add(e.key)) {
                    permute(e, 0, new Done[e.accesses.size()], outcomes, ways);
                }
            }
        }
    }

    private static Execution execute(List<List<int[]>> programs, int values, int fails) {
        Execution e = new Execution();
        long power = 1;
        int[] guesses = {values, fails};
        for (int h = 0; h < 4; h++) {
            int[] registers = new int[4];
            doProgram(e, h, programs.get(h), registers, guesses);
            for (int r = 0; r < 4; r++) {
                e.registers += registers[r] * power;
                power *= 4;
            }
        }
        return e;
    }

    private static void doProgram(Execution e, int h, List<int[]> program, int[] registers, int[] guesses) {
        List<Set<Done>> carry = new ArrayList<>();
        for (int r = 0; r < 4; r++) {
            carry.add(new HashSet<>());
        }
        Set<Done> way = new HashSet<>();
        Done last = null;
        int skip = 0;
        for (int i = 0; i < program.size(); i++) {
            int[] row = program.get(i);
            int kind = row[1];
            int got = 0;
            boolean reads = kind == 0 || kind == 2 || kind == 3 || kind == 4;
            boolean writes = kind == 1 || kind == 2 || kind == 3 || kind == 5;
            // A guess belongs to an instruction, done or not, so that guesses stay where they are.
            if (reads) {
                got = guesses[0] % 4;
                guesses[0] /= 4;
            }
            boolean fail = false;
            if (kind == 5) {
                fail = guesses[1] % 2 == 1;
                guesses[1] /= 2;
            }
            if (skip > 0) {
                skip--;
                continue;
            }
            Done d = new Done();
            d.hart = h;
            d.spot = i;
            d.kind = kind;
            if (kind <= 5) {
                int place = kind == 2 || kind == 3 || kind == 5 ? 4 : 3;
                d.location = (row[place] + (row[place + 1] == NO ? 0 : registers[row[place + 1]])) % 3;
                d.marks = row[place + 2];
                d.reads = reads;
                d.writes = writes;
                d.got = got;
                d.byPlace.addAll(row[place + 1] == NO ? Set.of() : carry.get(row[place + 1]));
                d.byWay.addAll(way);
                if (writes) {
                    d.byValue.addAll(carry.get(row[place - 1]));
                    d.put = (registers[row[place - 1]] + (kind == 3 ? got : 0)) % 4;
                }
                boolean must = kind == 5 && (last == null || last.kind != 4 || last.location != d.location);
                if (must && !fail) {
                    e.refused = true;
                    return;
                }
                d.belongs = kind == 5 ? last : null;
                d.access = !fail;
                e.key += h + "." + i + (reads ? "=" + got : "") + (kind == 5 ? fail ? "F" : "P" : "") + " ";
                if (d.access) {
                    e.accesses.add(d);
                }
                if (reads || kind == 5) {
                    registers[row[2]] = fail ? 1 : got;
                    carry.set(row[2], fail ? Set.of() : Set.of(d));
                }
                if (kind == 4 || kind == 5) {
                    last = d;
                }
            } else if (kind == 6) {
                d.fenceFirst = row[2];
                d.fenceSecond = row[3];
            } else if (kind == 7) {
                registers[row[2]] = row[3];
                carry.set(row[2], Set.of());
            } else if (kind == 8 || kind == 9) {
                int b = registers[row[3]];
                int c = registers[row[4]];
                Set<Done> union = new HashSet<>(carry.get(row[3]));
                union.addAll(carry.get(row[4]));
                registers[row[2]] = kind == 8 ? (b + c) % 4 : b ^ c;
                carry.set(row[2], union);
            } else {
                way.addAll(carry.get(row[2]));
                skip = registers[row[2]] == 0 ? row[3] : 0;
            }
            e.all.add(d);
        }
    }

    private static void permute(Execution e, int depth, Done[] order, List<TreeSet<Long>> outcomes, List<Set<String>> ways) {
        if (depth == order.length) {
            judge(e, order, outcomes, ways);
            return;
        }
        for (Done d : e.accesses) {
            boolean used = false;
            for (int i = 0; i < depth; i++) {
                used |= order[i] == d;
            }
            if (!used) {
                order[depth] = d;
                permute(e, depth + 1, order, outcomes, ways);
            }
        }
    }

    private static void judge(Execution e, Done[] order, List<TreeSet<Long>> outcomes, List<Set<String>> ways) {
        for (int i = 0; i < order.length; i++) {
            order[i].at = i;
        }
        for (Done d : order) {
            d.source = d.reads ? sourceOf(d, order) : null;
            if (d.reads && d.got != (d.source == null ? 0 : d.source.put)) {
                return;
            }
        }
        for (int m = 0; m < 3; m++) {
            if (keepsRules(e, order, m) && isAtomic(order)) {
                ways.get(m).add(e.key);
                outcomes.get(m).add(outcome(e, order));
            }
        }
    }

    private static long outcome(Execution e, Done[] order) {
        int[] memory = new int[3];
        for (Done d : order) {
            if (d.writes) {
                memory[d.location] = d.put;
            }
        }
        return e.registers + (memory[0] + 4L * memory[1] + 16L * memory[2]) * (1L << 32);
    }

    private static boolean before(Done a, Done b) {
        return a.hart == b.hart && a.spot < b.spot;
    }

    private static Done sourceOf(Done read, Done[] order) {
        Done source = null;
        for (Done w : order) {
            boolean candidate = w != read && w.writes && w.location == read.location;
            if (candidate && (w.at < read.at || before(w, read))) {
                source = w;
            }
        }
        return source;
    }

    private static boolean keepsRules(Execution e, Done[] order, int model) {
        for (Done a : order) {
            for (Done b : order) {
                if (before(a, b) && a.at > b.at && mustStand(e, a, b, model)) {
                    return false;
                }
            }
        }
        return true;
    }

    private static boolean mustStand(Execution e, Done a, Done b, int model) {
        boolean same = a.location == b.location;
        List<Done> between = new ArrayList<>();
        for (Done d : e.all) {
            if (before(a, d) && before(d, b)) {
                between.add(d);
            }
        }
        if (model == 2) {
            return true;
        }
        if (model == 1 && !(!a.reads && !b.writes)) {
            return true;
        }
        if (b.writes && same) {
            return true; // 1
        }
        if (a.reads && b.reads && same && a.source != b.source) {
            boolean free = true;
            for (Done d : between) {
                free &= !(d.access && d.writes && d.location == a.location);
            }
            if (free) {
                return true; // 2
            }
        }
        if ((a.kind == 2 || a.kind == 3 || a.kind == 5) && b.reads && b.source == a) {
            return true; // 3
        }
        for (Done d : between) {
            if (d.kind == 6 && isOf(a, d.fenceFirst) && isOf(b, d.fenceSecond)) {
                return true; // 4
            }
        }
        if (a.marks == 1 || a.marks == 3) {
            return true; // 5
        }
        if (b.marks == 2 || b.marks == 3) {
            return true; // 6
        }
        if (a.marks > 0 && b.marks > 0) {
            return true; // 7
        }
        if (a.kind == 4 && b.kind == 5 && b.belongs == a) {
            return true; // 8
        }
        if (b.byPlace.contains(a) || b.byValue.contains(a)) {
            return true; // 9, 10
        }
        if (b.writes && b.byWay.contains(a)) {
            return true; // 11
        }
        if (b.reads && b.source != null && between.contains(b.source)) {
            Done m = b.source;
            if (m.byPlace.contains(a) || m.byValue.contains(a)) {
                return true; // 12
            }
        }
        for (Done d : between) {
            if (b.writes && d.access && d.byPlace.contains(a)) {
                return true; // 13
            }
        }
        return false;
    }

    private static boolean isOf(Done d, int kinds) {
        return d.reads && kinds % 2 == 1 || d.writes && kinds >= 2;
    }

    private static boolean isAtomic(Done[] order) {
        for (Done c : order) {
            if (c.kind != 5) {
                continue;
            }
            Done source = c.belongs.source;
            int from = source == null ? -1 : source.at;
            if (from > c.at) {
                return false;
            }
            for (Done w : order) {
                boolean others = w.writes && w.hart != c.hart && w.location == c.location;
                if (others && from < w.at && w.at < c.at) {
                    return false;
                }
            }
        }
        return true;
    }
}
