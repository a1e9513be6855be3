import java.util.Arrays;

/**
 * Short programs of a few harts that share memory, and every outcome that a
 * memory model lets them have. ../shared/DOC.md says what each call answers;
 * words in capitals here are the terms of that document.
 */
public final class LitmusRunner {
    public static final int NONE = -1, BAD = -2, FULL = -3;

    private static final int HARTS = 4, REGISTERS = 4, LOCATIONS = 3, VALUES = 4, MODELS = 3;
    private static final int MOST_INSTRUCTIONS = 6, MOST_ACCESSES = 6, MOST_READERS = 4;
    private static final int ROW = 6, NO_REGISTER = -1;
    // A value has 2 bits in an OUTCOME.
    private static final int BITS = 2;

    private static final int LOAD = 0, STORE = 1, SWAP = 2, ADDING = 3, RESERVE = 4, CONDITIONAL = 5;
    private static final int FENCE = 6, SET = 7, ADD = 8, XOR = 9, SKIP = 10;
    private static final int KINDS = 11;

    private static final int ACQUIRE = 1, RELEASE = 2;
    private static final int OF_READS = 1, OF_WRITES = 2;

    // Each of 6 accesses makes at most one choice, among at most 4 values.
    private static final int MOST_WAYS = 4096;

    private final Programs programs;
    private final Choices choices;
    private final Way way;
    private final Ordering ordering;
    private final Outcomes outcomes;
    private int model;
    private int ways;
    private boolean found;

    public LitmusRunner() {
        programs = new Programs();
        choices = new Choices();
        way = new Way(programs, choices);
        outcomes = new Outcomes();
        ordering = new Ordering(way, outcomes);
        model = 0;
        ways = 0;
        found = false;
    }

    public int clear() {
        found = false;
        return programs.removeAll();
    }

    public int model(int m) {
        if (m < 0 || m >= MODELS) {
            return BAD;
        }
        int old = model;
        model = m;
        found = false;
        return old;
    }

    public int add(int hart, int kind, int a, int b, int c, int d, int e) {
        programs.propose(kind, a, b, c, d, e);
        int number = programs.append(hart);
        if (number >= 0) {
            found = false;
        }
        return number;
    }

    public int find() {
        if (found) {
            return outcomes.size();
        }
        outcomes.removeAll();
        choices.restart();
        ways = 0;
        boolean more = true;
        for (int n = 0; more && n < MOST_WAYS; n++) {
            way.walk(model);
            if (way.isPlausible() && ordering.search()) {
                ways++;
            }
            more = choices.advance();
        }
        found = true;
        return outcomes.size();
    }

    public long outcome(int i) {
        return found ? outcomes.at(i) : NONE;
    }

    public int with(int what, int value) {
        return both(what, value, what, value);
    }

    public int both(int what, int value, int other, int otherValue) {
        if (!isPart(what) || !isValue(value) || !isPart(other) || !isValue(otherValue)) {
            return BAD;
        }
        return found ? outcomes.howMany(what, value, other, otherValue) : NONE;
    }

    public int is(long outcome) {
        if (!found) {
            return NONE;
        }
        return outcomes.holds(outcome) ? 1 : 0;
    }

    public int instruction(int hart, int i, int k) {
        if (!programs.has(hart, i)) {
            return NONE;
        }
        return k >= 0 && k < ROW ? programs.row(hart, i)[k] : BAD;
    }

    public int count(int what) {
        switch (what) {
            case 0:
                return programs.size();
            case 1:
                return programs.accesses();
            case 2:
                return programs.readers();
            case 3:
                return found ? outcomes.size() : NONE;
            case 4:
                return model;
            case 5:
                return found ? ways : NONE;
            default:
                return BAD;
        }
    }

    private static boolean isPart(int what) {
        return what >= 0 && what < HARTS * REGISTERS + LOCATIONS;
    }

    private static boolean isValue(int value) {
        return value >= 0 && value < VALUES;
    }

    private static boolean isReader(int kind) {
        return kind == LOAD || kind == SWAP || kind == ADDING || kind == RESERVE;
    }

    private static boolean isWriter(int kind) {
        return kind == STORE || kind == SWAP || kind == ADDING || kind == CONDITIONAL;
    }

    private static boolean isAccess(int kind) {
        return isReader(kind) || isWriter(kind);
    }

    /** The instructions of all harts. */
    private static final class Programs {
        private final int[][] rows;
        private final int[] lengths;
        private final int[] draft;
        private int accesses;
        private int readers;

        Programs() {
            rows = new int[HARTS * MOST_INSTRUCTIONS][ROW];
            lengths = new int[HARTS];
            draft = new int[ROW];
            accesses = 0;
            readers = 0;
        }

        int removeAll() {
            int size = size();
            Arrays.fill(lengths, 0);
            accesses = 0;
            readers = 0;
            return size;
        }

        int size() {
            int size = 0;
            for (int length : lengths) {
                size += length;
            }
            return size;
        }

        int accesses() {
            return accesses;
        }

        int readers() {
            return readers;
        }

        int length(int hart) {
            return lengths[hart];
        }

        boolean has(int hart, int i) {
            return hart >= 0 && hart < HARTS && i >= 0 && i < lengths[hart];
        }

        int[] row(int hart, int i) {
            return rows[hart * MOST_INSTRUCTIONS + i];
        }

        void propose(int kind, int a, int b, int c, int d, int e) {
            draft[0] = kind;
            draft[1] = a;
            draft[2] = b;
            draft[3] = c;
            draft[4] = d;
            draft[5] = e;
        }

        /** What was proposed becomes a hart's next instruction: its number, BAD or FULL. */
        int append(int hart) {
            if (hart < 0 || hart >= HARTS || !isDraftGood()) {
                return BAD;
            }
            int kind = draft[0];
            boolean tooManyAccesses = isAccess(kind) && accesses >= MOST_ACCESSES;
            boolean tooManyReaders = isReader(kind) && readers >= MOST_READERS;
            if (lengths[hart] >= MOST_INSTRUCTIONS || tooManyAccesses || tooManyReaders) {
                return FULL;
            }
            accesses += isAccess(kind) ? 1 : 0;
            readers += isReader(kind) ? 1 : 0;
            int number = lengths[hart];
            copyDraft(row(hart, number));
            lengths[hart]++;
            return number;
        }

        private boolean isDraftGood() {
            if (draft[0] < 0 || draft[0] >= KINDS) {
                return false;
            }
            String form = formOf(draft[0]);
            for (int k = 0; k < form.length(); k++) {
                if (!isOfSort(form.charAt(k), draft[k + 1])) {
                    return false;
                }
            }
            return true;
        }

        private void copyDraft(int[] row) {
            int had = formOf(draft[0]).length() + 1;
            for (int k = 0; k < ROW; k++) {
                row[k] = k < had ? draft[k] : 0;
            }
        }

        /** The sorts of an instruction's numbers, a first; isOfSort tells the letters. */
        private static String formOf(int kind) {
            switch (kind) {
                case LOAD:
                case RESERVE:
                    return "rxyl";
                case STORE:
                    return "rxys";
                case SWAP:
                case ADDING:
                case CONDITIONAL:
                    return "rrxym";
                case FENCE:
                    return "ff";
                case SET:
                    return "rv";
                case ADD:
                case XOR:
                    return "rrr";
                default:
                    return "rn";
            }
        }

        private static boolean isOfSort(char sort, int number) {
            switch (sort) {
                case 'r': // a register
                    return number >= 0 && number < REGISTERS;
                case 'x': // a location
                    return number >= 0 && number < LOCATIONS;
                case 'y': // the register of a PLACE, or -1
                    return number >= NO_REGISTER && number < REGISTERS;
                case 'l': // MARKS of a LOAD
                    return number == 0 || number == ACQUIRE || number == ACQUIRE + RELEASE;
                case 's': // MARKS of a STORE
                    return number == 0 || number == RELEASE;
                case 'n': // how many a SKIP leaves out
                    return number >= 1 && number <= 5;
                default: // a value, MARKS of others, a kind of a FENCE
                    return number >= 0 && number <= 3;
            }
        }
    }

    /**
     * The choices that a way makes, one after another. A way is done anew for
     * each row of choices, so that nothing has to be undone.
     */
    private static final class Choices {
        private final int[] chosen;
        private final int[] limits;
        private int made;
        private int kept;

        Choices() {
            chosen = new int[MOST_ACCESSES];
            limits = new int[MOST_ACCESSES];
            made = 0;
            kept = 0;
        }

        void restart() {
            made = 0;
            kept = 0;
        }

        /** The next choice, from 0 on and below the limit. */
        int choose(int limit) {
            if (made >= MOST_ACCESSES) {
                return 0;
            }
            if (made >= kept) {
                chosen[made] = 0;
                limits[made] = limit;
            }
            return chosen[made++];
        }

        /** The next row of choices, if there is one more. */
        boolean advance() {
            int last = made - 1;
            while (last >= 0 && chosen[last] + 1 >= limits[last]) {
                last--;
            }
            if (last >= 0) {
                chosen[last]++;
            }
            kept = last + 1;
            made = 0;
            return last >= 0;
        }
    }

    /** An ACCESS of a way. Sets of accesses are bits, by their numbers in the way. */
    private static final class Access {
        private int hart;
        private int kind;
        private int location;
        private int marks;
        private boolean reads;
        private boolean writes;
        private int got;
        private int put;
        private int byPlace;
        private int byValue;
        /** The RESERVE to which a CONDITIONAL belongs, or NONE. */
        private int reserve;
        /** The last WRITE of its hart BEFORE it, to its location, or NONE. */
        private int ownWrite;
        /** READS BEFORE it of its location, with no WRITE to it between. */
        private int twins;
        /** What stands before it in THE ORDER, whatever the SOURCES are. */
        private int after;
    }

    /** One way in which harts can do their programs: what is read, and what FAILS, is chosen. */
    private static final class Way {
        private final Programs programs;
        private final Choices choices;
        private final Access[] accesses;
        private final int[] values;
        private final int[] carried;
        private int size;
        private int model;
        // From here on: of the hart whose program is being done.
        private int hart;
        private int first;
        private int reserve;
        private int byWay;
        private int neededForPlaces;
        private int fencedBeforeReads;
        private int fencedBeforeWrites;

        Way(Programs programs, Choices choices) {
            this.programs = programs;
            this.choices = choices;
            accesses = new Access[MOST_ACCESSES];
            for (int i = 0; i < MOST_ACCESSES; i++) {
                accesses[i] = new Access();
            }
            values = new int[HARTS * REGISTERS];
            carried = new int[HARTS * REGISTERS];
        }

        int size() {
            return size;
        }

        Access accessAt(int i) {
            return accesses[i];
        }

        /** The registers' part of the OUTCOME. */
        long registersPart() {
            long part = 0;
            for (int r = HARTS * REGISTERS - 1; r >= 0; r--) {
                part = part * VALUES + values[r];
            }
            return part;
        }

        /** The locations' part, if these WRITES (or NONE) are the last to their locations. */
        long locationsPart(int[] latest) {
            long part = 0;
            for (int x = LOCATIONS - 1; x >= 0; x--) {
                part = part * VALUES + (latest[x] == NONE ? 0 : accesses[latest[x]].put);
            }
            return part << BITS * HARTS * REGISTERS;
        }

        void walk(int newModel) {
            model = newModel;
            size = 0;
            Arrays.fill(values, 0);
            Arrays.fill(carried, 0);
            for (int h = 0; h < HARTS; h++) {
                walkHart(h);
            }
        }

        /** Whether all that is read is written somewhere, or there at first: else no ORDER need be tried. */
        boolean isPlausible() {
            for (int i = 0; i < size; i++) {
                if (accesses[i].reads && accesses[i].got != 0 && !isWrittenFor(i)) {
                    return false;
                }
            }
            return true;
        }

        private boolean isWrittenFor(int reader) {
            Access read = accesses[reader];
            for (int i = 0; i < size; i++) {
                Access write = accesses[i];
                if (i != reader && write.writes && write.location == read.location && write.put == read.got) {
                    return true;
                }
            }
            return false;
        }

        private void walkHart(int newHart) {
            hart = newHart;
            first = size;
            reserve = NONE;
            byWay = 0;
            neededForPlaces = 0;
            fencedBeforeReads = 0;
            fencedBeforeWrites = 0;
            int length = programs.length(hart);
            for (int i = 0; i < length; i++) {
                int[] row = programs.row(hart, i);
                if (row[0] == SKIP) {
                    i += leftOut(row);
                } else {
                    step(row);
                }
            }
        }

        private int leftOut(int[] row) {
            byWay |= carriedBy(row[1]);
            return valueOf(row[1]) == 0 ? row[2] : 0;
        }

        private void step(int[] row) {
            switch (row[0]) {
                case FENCE:
                    fence(row[1], row[2]);
                    break;
                case SET:
                    setRegister(row[1], row[2], 0);
                    break;
                case ADD:
                    setRegister(row[1], valueOf(row[2]) + valueOf(row[3]), carriedBy(row[2]) | carriedBy(row[3]));
                    break;
                case XOR:
                    setRegister(row[1], valueOf(row[2]) ^ valueOf(row[3]), carriedBy(row[2]) | carriedBy(row[3]));
                    break;
                case CONDITIONAL:
                    if (fails(row)) {
                        setRegister(row[1], 1, 0);
                    } else {
                        makeAccess(row);
                    }
                    // A later CONDITIONAL belongs to this one, and so FAILS.
                    reserve = NONE;
                    break;
                default:
                    makeAccess(row);
                    break;
            }
        }

        private void fence(int firstKind, int secondKind) {
            int behind = 0;
            for (int i = first; i < size; i++) {
                Access access = accesses[i];
                boolean read = access.reads && (firstKind & OF_READS) != 0;
                boolean write = access.writes && (firstKind & OF_WRITES) != 0;
                behind |= read || write ? 1 << i : 0;
            }
            fencedBeforeReads |= (secondKind & OF_READS) != 0 ? behind : 0;
            fencedBeforeWrites |= (secondKind & OF_WRITES) != 0 ? behind : 0;
        }

        private boolean fails(int[] row) {
            boolean mayPass = reserve != NONE && accesses[reserve].location == place(row[3], row[4]);
            return !mayPass || choices.choose(2) == 1;
        }

        /** Any ACCESS: its numbers, what it needs, what it reads and writes. */
        private void makeAccess(int[] row) {
            if (size >= MOST_ACCESSES) {
                return;
            }
            int kind = row[0];
            int at = kind == SWAP || kind == ADDING || kind == CONDITIONAL ? 3 : 2;
            int number = size;
            Access access = accesses[number];
            access.hart = hart;
            access.kind = kind;
            access.location = place(row[at], row[at + 1]);
            access.marks = row[at + 2];
            access.reads = isReader(kind);
            access.writes = isWriter(kind);
            access.byPlace = row[at + 1] == NO_REGISTER ? 0 : carriedBy(row[at + 1]);
            access.byValue = access.writes ? carriedBy(row[at - 1]) : 0;
            access.reserve = kind == CONDITIONAL ? reserve : NONE;
            access.got = access.reads ? choices.choose(VALUES) : 0;
            access.put = access.writes ? written(row[at - 1], access) : 0;
            relate(access);
            size++;
            neededForPlaces |= access.byPlace;
            if (kind == RESERVE) {
                reserve = number;
            }
            if (kind != STORE) {
                setRegister(row[1], access.got, 1 << number);
            }
        }

        private int written(int register, Access access) {
            int sum = valueOf(register) + (access.kind == ADDING ? access.got : 0);
            return sum % VALUES;
        }

        /** How an access, the newest, stands to those BEFORE it. */
        private void relate(Access access) {
            access.after = 0;
            access.twins = 0;
            access.ownWrite = NONE;
            for (int i = size - 1; i >= first; i--) {
                Access earlier = accesses[i];
                boolean sameLocation = earlier.location == access.location;
                if (sameLocation && access.ownWrite == NONE) {
                    access.twins |= access.reads && earlier.reads ? 1 << i : 0;
                    access.ownWrite = earlier.writes ? i : NONE;
                }
                if (isOrdered(i, access)) {
                    access.after |= 1 << i;
                }
            }
        }

        /** THE RULES that ask for no SOURCE, and those of the MODEL, for an access BEFORE the newest. */
        private boolean isOrdered(int number, Access b) {
            Access a = accesses[number];
            int needed = b.byPlace | b.byValue;
            int fenced = 0;
            if (b.reads) {
                fenced |= fencedBeforeReads;
            }
            if (b.writes) {
                fenced |= fencedBeforeWrites;
                needed |= byWay | neededForPlaces;
            }
            boolean rule1 = b.writes && a.location == b.location;
            boolean rule4 = (fenced >> number & 1) != 0;
            boolean rules5And6 = (a.marks & ACQUIRE) != 0 || (b.marks & RELEASE) != 0;
            boolean rule7 = a.marks != 0 && b.marks != 0;
            boolean rule8 = b.reserve == number;
            boolean rules9To11And13 = (needed >> number & 1) != 0;
            boolean ofModel = model == 2 || model == 1 && (a.reads || b.writes);
            return rule1 || rule4 || rules5And6 || rule7 || rule8 || rules9To11And13 || ofModel;
        }

        private int place(int x, int y) {
            return y == NO_REGISTER ? x : (x + valueOf(y)) % LOCATIONS;
        }

        private int valueOf(int register) {
            return values[hart * REGISTERS + register];
        }

        private int carriedBy(int register) {
            return carried[hart * REGISTERS + register];
        }

        private void setRegister(int register, int value, int carries) {
            values[hart * REGISTERS + register] = value % VALUES;
            carried[hart * REGISTERS + register] = carries;
        }
    }

    /**
     * All ORDERS of a way's accesses, put one behind another. The SOURCE of a
     * READ is known as soon as it is put, because WRITES of its hart BEFORE it
     * that are yet to come stand, by rule 1, as they do in its program.
     */
    private static final class Ordering {
        private final Way way;
        private final Outcomes outcomes;
        private final int[] spots;
        private final int[] sources;
        private final int[] latest;
        private long registersPart;
        private boolean any;

        Ordering(Way way, Outcomes outcomes) {
            this.way = way;
            this.outcomes = outcomes;
            spots = new int[MOST_ACCESSES];
            sources = new int[MOST_ACCESSES];
            latest = new int[LOCATIONS];
            registersPart = 0;
            any = false;
        }

        /** Keeps the OUTCOMES of the way: whether there is an ORDER. */
        boolean search() {
            any = false;
            registersPart = way.registersPart();
            Arrays.fill(latest, NONE);
            extend(0, 0);
            return any;
        }

        private void extend(int placed, int depth) {
            if (depth >= way.size()) {
                any = true;
                outcomes.keep(registersPart + way.locationsPart(latest));
                return;
            }
            for (int i = 0; i < way.size(); i++) {
                Access access = way.accessAt(i);
                if (isIn(placed, i) || (access.after & ~placed) != 0) {
                    continue;
                }
                sources[i] = access.reads ? sourceOf(access, placed) : NONE;
                if (mayReadHere(i, placed) && isAtomic(access, placed)) {
                    place(i, placed, depth);
                }
            }
        }

        private void place(int i, int placed, int depth) {
            int location = way.accessAt(i).location;
            int old = latest[location];
            spots[i] = depth;
            if (way.accessAt(i).writes) {
                latest[location] = i;
            }
            extend(placed | 1 << i, depth + 1);
            latest[location] = old;
        }

        private int sourceOf(Access access, int placed) {
            boolean ownIsYetToCome = access.ownWrite != NONE && !isIn(placed, access.ownWrite);
            return ownIsYetToCome ? access.ownWrite : latest[access.location];
        }

        private boolean mayReadHere(int i, int placed) {
            if (!way.accessAt(i).reads) {
                return true;
            }
            int source = sources[i];
            int value = source == NONE ? 0 : way.accessAt(source).put;
            return value == way.accessAt(i).got && mayForward(source, placed) && agreesWithTwins(i, placed);
        }

        /** Rules 3 and 12; a SOURCE that has been put keeps both, by what it stands behind. */
        private boolean mayForward(int source, int placed) {
            if (source == NONE || isIn(placed, source)) {
                return true;
            }
            Access write = way.accessAt(source);
            return write.kind == STORE && ((write.byPlace | write.byValue) & ~placed) == 0;
        }

        /** Rule 2, for later READS that stand before this one. */
        private boolean agreesWithTwins(int i, int placed) {
            for (int later = i + 1; later < way.size(); later++) {
                if (isIn(placed, later) && isIn(way.accessAt(later).twins, i) && sources[later] != sources[i]) {
                    return false;
                }
            }
            return true;
        }

        /** ATOMIC; rules 1 and 8 already put the SOURCE before the CONDITIONAL. */
        private boolean isAtomic(Access access, int placed) {
            if (access.reserve == NONE) {
                return true;
            }
            int source = sources[access.reserve];
            int from = source == NONE ? -1 : spots[source];
            for (int i = 0; i < way.size(); i++) {
                Access write = way.accessAt(i);
                boolean isOthers = write.writes && write.hart != access.hart && write.location == access.location;
                if (isIn(placed, i) && isOthers && spots[i] > from) {
                    return false;
                }
            }
            return true;
        }

        private static boolean isIn(int set, int i) {
            return (set >> i & 1) != 0;
        }
    }

    /** OUTCOMES, each once, the least first. */
    private static final class Outcomes {
        private long[] rows;
        private int size;

        Outcomes() {
            rows = new long[64];
            size = 0;
        }

        void removeAll() {
            size = 0;
        }

        int size() {
            return size;
        }

        long at(int i) {
            return i >= 0 && i < size ? rows[i] : NONE;
        }

        boolean holds(long outcome) {
            int spot = spotOf(outcome);
            return spot < size && rows[spot] == outcome;
        }

        void keep(long outcome) {
            int spot = spotOf(outcome);
            if (spot < size && rows[spot] == outcome) {
                return;
            }
            if (size >= rows.length) {
                rows = Arrays.copyOf(rows, rows.length * 2);
            }
            System.arraycopy(rows, spot, rows, spot + 1, size - spot);
            rows[spot] = outcome;
            size++;
        }

        int howMany(int what, int value, int other, int otherValue) {
            int many = 0;
            for (int i = 0; i < size; i++) {
                if (partOf(rows[i], what) == value && partOf(rows[i], other) == otherValue) {
                    many++;
                }
            }
            return many;
        }

        /** How many OUTCOMES are less. */
        private int spotOf(long outcome) {
            int low = 0;
            int high = size;
            // A row has far less than 2 to the power 32 spots to halve.
            for (int step = 0; low < high && step < 32; step++) {
                int middle = (low + high) / 2;
                if (rows[middle] < outcome) {
                    low = middle + 1;
                } else {
                    high = middle;
                }
            }
            return low;
        }

        private static int partOf(long outcome, int what) {
            return (int) (outcome >> BITS * what) & VALUES - 1;
        }
    }
}
