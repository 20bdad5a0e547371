import java.util.Arrays;

/** Sixty-four lanes that do one thing at once; their numbers are cut into planes of one bit. */
public final class LaneSlices {
    public static final int NONE = -1;

    private static final int BAD = -1001;
    private static final int FULL = -1002;
    private static final int STATE = -1003;
    private static final int EMPTY = -1004;
    private static final int PLACE = -1005;
    private static final int REFUSAL_KINDS = 5;

    private static final int LANES = 64;
    private static final int VARIABLES = 8;
    private static final int BITS = 8;
    private static final int GREATEST = 255;
    private static final int WAYS = 4;
    private static final int LEVELS = 7;
    private static final int MOST_MASKS = 8;
    private static final int MOST_BYTES = 160;
    private static final int MOST_FED = 8;
    private static final int MOST_GOES = 30;
    private static final int MOST_TURNS = 20;
    private static final int SHELVES = 4;
    private static final int SORTS = 4;

    private static final int MOST_OPEN = 4;
    private static final int MOST_LOOPS = 2;
    private static final int MOST_NESTED = 5;
    private static final int MOST_DIGITS = 3;
    // At each level of ( a < or =, a + or - and a * or & may wait for what stands behind it.
    private static final int MOST_HELD = 3 * (MOST_NESTED + 1) + 1;

    // 0 to 7 are the numbers by which does() tells them, too.
    private static final int PLUS = 0;
    private static final int MINUS = 1;
    private static final int TIMES = 2;
    private static final int BOTH = 3;
    private static final int LESS = 4;
    private static final int SAME = 5;
    private static final int LESSER = 6;
    private static final int GREATER = 7;
    private static final int PAIRED = 8;
    private static final int NUMBER = 8;
    private static final int VARIABLE = 9;
    private static final int LANE_NUMBER = 10;
    private static final int INVERSE = 11;
    private static final int[] STEPS_OF = {16, 16, 136, 8, 9, 9, 17, 17, 8, 0, 6, 8};
    private static final int STEPS_TO_COPY = 8;
    private static final int STEPS_TO_ROUTE = 8;
    private static final int STEPS_TO_CHOOSE = 2;
    private static final int STEPS_TO_TURN = 1;

    private static final int NORTH = 0;
    private static final int EAST = 1;
    private static final int SOUTH = 2;
    private static final int WEST = 3;
    private static final long WEST_COLUMN = 0x0101010101010101L;
    private static final long EAST_COLUMN = 0x8080808080808080L;

    private static final long[] LANE_PLANES = {
        0xAAAAAAAAAAAAAAAAL, 0xCCCCCCCCCCCCCCCCL, 0xF0F0F0F0F0F0F0F0L, 0xFF00FF00FF00FF00L,
        0xFFFF0000FFFF0000L, 0xFFFFFFFF00000000L, 0L, 0L
    };

    private final Whole now = new Whole();
    private final Whole kept = new Whole();
    private boolean isKept;
    private final Shelf[] shelves = new Shelf[SHELVES];
    private final int[] refusals = new int[REFUSAL_KINDS];
    private final Reader reader = new Reader();
    private final Walker walker = new Walker();
    private final Variables earlier = new Variables();
    private final Slices spare = new Slices();

    public LaneSlices() {
        for (int k = 0; k < SHELVES; k++) {
            shelves[k] = new Shelf();
        }
    }

    // ---- lanes, planes

    public int lane(int lane, int v) {
        if (!isLane(lane) || !isVariable(v)) {
            return refuse(BAD);
        }
        return now.variables.slices(v).inLane(lane);
    }

    public int put(int lane, int v, int x) {
        if (!isLane(lane) || !isVariable(v) || !isNumber(x)) {
            return refuse(BAD);
        }
        int before = now.variables.slices(v).inLane(lane);
        now.variables.slices(v).setLane(lane, x);
        return before;
    }

    public long plane(int v, int k) {
        if (!isVariable(v) || !isBit(k)) {
            return 0L;
        }
        return now.variables.slices(v).planes[k];
    }

    public int lay(int v, int k, long set) {
        if (!isVariable(v) || !isBit(k)) {
            return refuse(BAD);
        }
        long[] planes = now.variables.slices(v).planes;
        long mask = now.masks.common();
        planes[k] = (planes[k] & ~mask) | (set & mask);
        return Long.bitCount(planes[k]);
    }

    public int fill(int v, int x) {
        if (!isVariable(v) || !isNumber(x)) {
            return refuse(BAD);
        }
        spare.setAll(x);
        return becomeSpare(v, STEPS_OF[NUMBER]);
    }

    public int does(int op, int d, int a, int b) {
        if (op < 0 || op >= PAIRED || !isVariable(d) || !isVariable(a) || !isVariable(b)) {
            return refuse(BAD);
        }
        spare.copyOf(now.variables.slices(a));
        spare.pair(op, now.variables.slices(b));
        return becomeSpare(d, STEPS_OF[op]);
    }

    public int route(int d, int a, int way) {
        if (!isVariable(d) || !isVariable(a) || way < 0 || way >= WAYS) {
            return refuse(BAD);
        }
        spare.comeFrom(now.variables.slices(a), way, now.edge);
        return becomeSpare(d, STEPS_TO_ROUTE);
    }

    public int edge(int v) {
        if (v != 0 && v != 1) {
            return refuse(BAD);
        }
        int before = now.edge;
        now.edge = v;
        return before;
    }

    // ---- masks

    public int push(int v, int k) {
        if (!isVariable(v) || !isBit(k)) {
            return refuse(BAD);
        }
        if (now.masks.isFull()) {
            return refuse(FULL);
        }
        now.masks.lie(now.variables.slices(v).planes[k]);
        return Long.bitCount(now.masks.common());
    }

    public int other() {
        if (now.masks.height == 0) {
            return refuse(STATE);
        }
        now.masks.turn();
        return Long.bitCount(now.masks.common());
    }

    public int pop() {
        if (now.masks.height == 0) {
            return refuse(STATE);
        }
        now.masks.height--;
        return Long.bitCount(now.masks.common());
    }

    public long active() {
        return now.masks.common();
    }

    // ---- all together

    public int reduce(int what, int v) {
        if (what < 0 || what > 6 || !isVariable(v)) {
            return refuse(BAD);
        }
        Slices of = now.variables.slices(v);
        long mask = now.masks.common();
        switch (what) {
            case 0:
                return of.sum(mask);
            case 1:
                return mask == 0L ? NONE : of.greatest(mask);
            case 2:
                return mask == 0L ? NONE : of.least(mask);
            case 3:
                return of.bitsInAny(mask);
            case 4:
                return of.bitsInAll(mask);
            case 5:
                return Long.bitCount(of.notZero() & mask);
            default:
                return mask == 0L ? NONE : of.firstGreatest(mask);
        }
    }

    public int part(int v, int level, int i) {
        if (!isVariable(v) || level < 0 || level >= LEVELS || i < 0 || i >= (LANES >> level)) {
            return refuse(BAD);
        }
        int size = 1 << level;
        // A shift by all 64 places would leave a long as it is.
        long block = size == LANES ? -1L : ((1L << size) - 1L) << (i * size);
        return now.variables.slices(v).sum(block & now.masks.common());
    }

    public int rank(int lane, int v) {
        if (!isLane(lane) || !isVariable(v)) {
            return refuse(BAD);
        }
        Slices of = now.variables.slices(v);
        spare.setAll(of.inLane(lane));
        return Long.bitCount(of.lanesBelow(spare) & now.masks.common());
    }

    public long alike(int lane) {
        if (!isLane(lane)) {
            return 0L;
        }
        long same = -1L;
        for (int v = 0; v < VARIABLES; v++) {
            same &= lanesLike(lane, v);
        }
        return same;
    }

    public long region(int lane, int v) {
        if (!isLane(lane) || !isVariable(v)) {
            return 0L;
        }
        return flood(lane, v);
    }

    public int regions(int v) {
        if (!isVariable(v)) {
            return refuse(BAD);
        }
        long seen = 0L;
        int found = 0;
        for (int lane = 0; lane < LANES; lane++) {
            if ((seen >>> lane & 1L) == 0L) {
                seen |= flood(lane, v);
                found++;
            }
        }
        return found;
    }

    public int way(int from, int to, int v) {
        if (!isLane(from) || !isLane(to) || !isVariable(v)) {
            return refuse(BAD);
        }
        long open = now.variables.slices(v).notZero();
        // Both ends must be open, so a lane with a 0 has not even a way to itself.
        long reached = (1L << from) & open;
        for (int moves = 0; moves < LANES; moves++) {
            if ((reached >>> to & 1L) == 1L) {
                return moves;
            }
            reached = spread(reached, open);
        }
        return NONE;
    }

    // ---- programs

    public int feed(long bytes, int n) {
        if (n < 1 || n > MOST_FED) {
            return refuse(BAD);
        }
        Tape tape = reader.tape;
        if (tape.length + n > MOST_BYTES) {
            return refuse(FULL);
        }
        for (int i = 0; i < n; i++) {
            tape.lengthen((int) (bytes >>> (8 * i)) & 255);
        }
        return tape.length;
    }

    public int wipe() {
        int had = reader.tape.length;
        reader.tape.length = 0;
        return had;
    }

    public int text() {
        Program read = reader.read();
        reader.tape.length = 0;
        if (read == null) {
            return -10 - reader.fault;
        }
        now.program = read;
        return read.deeds;
    }

    public int run(int n) {
        if (n < 1 || n > MOST_GOES) {
            return refuse(BAD);
        }
        if (now.program == null) {
            return refuse(STATE);
        }
        int taken = think(n);
        now.variables.copyOf(walker.variables);
        now.steps += taken;
        return taken;
    }

    public int then(int n, int lane, int v) {
        if (!isGoes(n) || !isLane(lane) || !isVariable(v)) {
            return refuse(BAD);
        }
        if (now.program == null) {
            return refuse(STATE);
        }
        think(n);
        return walker.variables.slices(v).inLane(lane);
    }

    public int steps(int n) {
        if (!isGoes(n)) {
            return refuse(BAD);
        }
        if (now.program == null) {
            return refuse(STATE);
        }
        return think(n);
    }

    public long changed(int n) {
        if (!isGoes(n) || now.program == null) {
            return 0L;
        }
        think(n);
        return walker.variables.differsFrom(now.variables);
    }

    public int settles() {
        if (now.program == null) {
            return refuse(STATE);
        }
        walker.variables.copyOf(now.variables);
        for (int n = 0; n <= MOST_GOES; n++) {
            earlier.copyOf(walker.variables);
            walker.go(now, 1);
            if (walker.variables.differsFrom(earlier) == 0L) {
                return n;
            }
        }
        return NONE;
    }

    public int first(int lane, int v, int x) {
        if (!isLane(lane) || !isVariable(v) || !isNumber(x)) {
            return refuse(BAD);
        }
        if (now.program == null) {
            return refuse(STATE);
        }
        walker.variables.copyOf(now.variables);
        for (int n = 0; n <= MOST_GOES; n++) {
            if (walker.variables.slices(v).inLane(lane) == x) {
                return n;
            }
            walker.go(now, 1);
        }
        return NONE;
    }

    public int again() {
        if (now.program == null) {
            return refuse(STATE);
        }
        walker.variables.copyOf(now.variables);
        for (int n = 1; n <= MOST_GOES; n++) {
            walker.go(now, 1);
            if (walker.variables.differsFrom(now.variables) == 0L) {
                return n;
            }
        }
        return NONE;
    }

    // ---- shelves

    public int row(int k, int sort, int n) {
        if (!isShelf(k) || sort < NONE || sort >= SORTS || (sort != NONE && n > LANES)) {
            return refuse(BAD);
        }
        if (sort != NONE && n < 0) {
            return refuse(PLACE);
        }
        shelves[k].begin(sort, n);
        return 1;
    }

    public int mark(int k, int i, long v) {
        if (!isShelf(k)) {
            return refuse(BAD);
        }
        if (shelves[k].isMissing()) {
            return refuse(EMPTY);
        }
        if (!shelves[k].has(i)) {
            return refuse(PLACE);
        }
        shelves[k].set(i, v);
        return 1;
    }

    public long at(int k, int i) {
        if (!isShelf(k) || !shelves[k].has(i)) {
            return 0L;
        }
        return shelves[k].numbers[i];
    }

    public int load(int v, int k) {
        if (!isVariable(v) || !isShelf(k)) {
            return refuse(BAD);
        }
        Shelf shelf = shelves[k];
        if (shelf.isMissing()) {
            return refuse(EMPTY);
        }
        long mask = now.masks.common();
        int loaded = 0;
        for (int i = 0; i < LANES && i < shelf.length; i++) {
            if ((mask >>> i & 1L) == 1L) {
                now.variables.slices(v).setLane(i, (int) shelf.numbers[i] & GREATEST);
                loaded++;
            }
        }
        return loaded;
    }

    public int store(int v, int k) {
        if (!isVariable(v) || !isShelf(k)) {
            return refuse(BAD);
        }
        Shelf shelf = shelves[k];
        if (shelf.isMissing()) {
            return refuse(EMPTY);
        }
        for (int i = 0; i < LANES && i < shelf.length; i++) {
            shelf.set(i, now.variables.slices(v).inLane(i));
        }
        return shelf.length;
    }

    public int judge(int v, int k) {
        if (!isVariable(v) || !isShelf(k)) {
            return refuse(BAD);
        }
        Shelf shelf = shelves[k];
        if (shelf.isMissing()) {
            return refuse(EMPTY);
        }
        for (int i = 0; i < LANES && i < shelf.length; i++) {
            if (shelf.numbers[i] != now.variables.slices(v).inLane(i)) {
                return i;
            }
        }
        return NONE;
    }

    // ---- images

    public int image() {
        kept.copyOf(now);
        isKept = true;
        return now.steps;
    }

    public int back() {
        if (!isKept) {
            return refuse(STATE);
        }
        now.copyOf(kept);
        return now.steps;
    }

    public int count(int what) {
        switch (what) {
            case 0:
                return now.steps;
            case 1:
                return now.masks.height;
            case 2:
                return reader.tape.length;
            case 3:
                return now.program == null ? 0 : now.program.deeds;
            case 4:
                return now.edge;
            default:
                return refuse(BAD);
        }
    }

    public int refused(int which) {
        if (which < 0 || which >= REFUSAL_KINDS) {
            return refuse(BAD);
        }
        return refusals[which];
    }

    // ---- what the calls share

    private int refuse(int refusal) {
        int kind = BAD - refusal;
        if (kind >= 0 && kind < REFUSAL_KINDS) {
            refusals[kind]++;
        }
        return refusal;
    }

    private static boolean isLane(int lane) {
        return lane >= 0 && lane < LANES;
    }

    private static boolean isVariable(int v) {
        return v >= 0 && v < VARIABLES;
    }

    private static boolean isBit(int k) {
        return k >= 0 && k < BITS;
    }

    private static boolean isNumber(int x) {
        return x >= 0 && x <= GREATEST;
    }

    private static boolean isGoes(int n) {
        return n >= 0 && n <= MOST_GOES;
    }

    private static boolean isShelf(int k) {
        return k >= 0 && k < SHELVES;
    }

    private int becomeSpare(int v, int taken) {
        now.variables.slices(v).becomeIn(spare, now.masks.common());
        now.steps += taken;
        return taken;
    }

    private long lanesLike(int lane, int v) {
        Slices of = now.variables.slices(v);
        spare.setAll(of.inLane(lane));
        return ~of.differsFrom(spare);
    }

    private long flood(int lane, int v) {
        long like = lanesLike(lane, v);
        long reached = 1L << lane;
        for (int moves = 0; moves < LANES; moves++) {
            long wider = spread(reached, like);
            if (wider == reached) {
                break;
            }
            reached = wider;
        }
        return reached;
    }

    private long spread(long reached, long within) {
        long wider = reached;
        for (int way = 0; way < WAYS; way++) {
            wider |= shift(reached, way, now.edge);
        }
        return wider & within;
    }

    /** The lanes whose neighbour on that way is in the set. */
    private static long shift(long set, int way, int edge) {
        switch (way) {
            case NORTH:
                return edge == 1 ? Long.rotateLeft(set, 8) : set << 8;
            case EAST: {
                long beyond = edge == 1 ? (set << 7) & EAST_COLUMN : 0L;
                return ((set >>> 1) & ~EAST_COLUMN) | beyond;
            }
            case SOUTH:
                return edge == 1 ? Long.rotateRight(set, 8) : set >>> 8;
            default: {
                long beyond = edge == 1 ? (set >>> 7) & WEST_COLUMN : 0L;
                return ((set << 1) & ~WEST_COLUMN) | beyond;
            }
        }
    }

    private int think(int n) {
        walker.variables.copyOf(now.variables);
        return walker.go(now, n);
    }

    /** A number in each lane, cut into bits: plane k is the set of lanes in which bit k is 1. */
    private static final class Slices {
        private final long[] planes = new long[BITS];

        int inLane(int lane) {
            int x = 0;
            for (int k = 0; k < BITS; k++) {
                x |= (int) (planes[k] >>> lane & 1L) << k;
            }
            return x;
        }

        void setLane(int lane, int x) {
            long bit = 1L << lane;
            for (int k = 0; k < BITS; k++) {
                planes[k] = (x >> k & 1) == 1 ? planes[k] | bit : planes[k] & ~bit;
            }
        }

        void setAll(int x) {
            for (int k = 0; k < BITS; k++) {
                planes[k] = (x >> k & 1) == 1 ? -1L : 0L;
            }
        }

        void setLaneNumbers() {
            System.arraycopy(LANE_PLANES, 0, planes, 0, BITS);
        }

        void copyOf(Slices from) {
            System.arraycopy(from.planes, 0, planes, 0, BITS);
        }

        void becomeIn(Slices from, long mask) {
            for (int k = 0; k < BITS; k++) {
                planes[k] = (planes[k] & ~mask) | (from.planes[k] & mask);
            }
        }

        /** From must be another one: planes that were written already would be read again. */
        void comeFrom(Slices from, int way, int edge) {
            for (int k = 0; k < BITS; k++) {
                planes[k] = shift(from.planes[k], way, edge);
            }
        }

        long notZero() {
            long any = 0L;
            for (int k = 0; k < BITS; k++) {
                any |= planes[k];
            }
            return any;
        }

        long differsFrom(Slices from) {
            long any = 0L;
            for (int k = 0; k < BITS; k++) {
                any |= planes[k] ^ from.planes[k];
            }
            return any;
        }

        /** Where a - b would still borrow behind the highest bit, a is less. */
        long lanesBelow(Slices b) {
            long borrow = 0L;
            for (int k = 0; k < BITS; k++) {
                long x = planes[k];
                long y = b.planes[k];
                borrow = (~x & y) | (~(x ^ y) & borrow);
            }
            return borrow;
        }

        /** Becomes what op makes of it and b; b must be another one. */
        void pair(int op, Slices b) {
            switch (op) {
                case PLUS:
                    plus(b);
                    break;
                case MINUS:
                    minus(b);
                    break;
                case TIMES:
                    times(b);
                    break;
                case BOTH:
                    both(b);
                    break;
                case LESS:
                    setTruth(lanesBelow(b));
                    break;
                case SAME:
                    setTruth(~differsFrom(b));
                    break;
                case LESSER:
                    becomeIn(b, ~lanesBelow(b));
                    break;
                case GREATER:
                    becomeIn(b, lanesBelow(b));
                    break;
                default:
                    break;
            }
        }

        private void plus(Slices b) {
            long carry = 0L;
            for (int k = 0; k < BITS; k++) {
                long x = planes[k];
                long y = b.planes[k];
                planes[k] = x ^ y ^ carry;
                carry = (x & y) | ((x ^ y) & carry);
            }
        }

        private void minus(Slices b) {
            long borrow = 0L;
            for (int k = 0; k < BITS; k++) {
                long x = planes[k];
                long y = b.planes[k];
                planes[k] = x ^ y ^ borrow;
                borrow = (~x & y) | (~(x ^ y) & borrow);
            }
        }

        // From the highest bit down, what bit j adds lies in planes j and above:
        // the bits that are still to be gone through stay as they are.
        private void times(Slices b) {
            for (int j = BITS - 1; j >= 0; j--) {
                long factor = planes[j];
                planes[j] = 0L;
                long carry = 0L;
                for (int k = j; k < BITS; k++) {
                    long x = planes[k];
                    long y = b.planes[k - j] & factor;
                    planes[k] = x ^ y ^ carry;
                    carry = (x & y) | ((x ^ y) & carry);
                }
            }
        }

        private void both(Slices b) {
            for (int k = 0; k < BITS; k++) {
                planes[k] &= b.planes[k];
            }
        }

        private void setTruth(long lanes) {
            for (int k = 0; k < BITS; k++) {
                planes[k] = k == 0 ? lanes : 0L;
            }
        }

        void invert() {
            for (int k = 0; k < BITS; k++) {
                planes[k] = ~planes[k];
            }
        }

        int sum(long mask) {
            int sum = 0;
            for (int k = 0; k < BITS; k++) {
                sum += Long.bitCount(planes[k] & mask) << k;
            }
            return sum;
        }

        int greatest(long mask) {
            return inLane(firstGreatest(mask));
        }

        int firstGreatest(long mask) {
            long left = mask;
            for (int k = BITS - 1; k >= 0; k--) {
                long having = left & planes[k];
                left = having == 0L ? left : having;
            }
            return Long.numberOfTrailingZeros(left);
        }

        int least(long mask) {
            long left = mask;
            for (int k = BITS - 1; k >= 0; k--) {
                long lacking = left & ~planes[k];
                left = lacking == 0L ? left : lacking;
            }
            return inLane(Long.numberOfTrailingZeros(left));
        }

        int bitsInAny(long mask) {
            int bits = 0;
            for (int k = 0; k < BITS; k++) {
                bits |= (planes[k] & mask) != 0L ? 1 << k : 0;
            }
            return bits;
        }

        int bitsInAll(long mask) {
            int bits = 0;
            for (int k = 0; k < BITS; k++) {
                bits |= (~planes[k] & mask) == 0L ? 1 << k : 0;
            }
            return bits;
        }
    }

    /** The variables a to h of all lanes. */
    private static final class Variables {
        private final Slices[] all = new Slices[VARIABLES];

        Variables() {
            for (int v = 0; v < VARIABLES; v++) {
                all[v] = new Slices();
            }
        }

        Slices slices(int v) {
            return all[v & (VARIABLES - 1)];
        }

        void copyOf(Variables from) {
            for (int v = 0; v < VARIABLES; v++) {
                all[v].copyOf(from.all[v]);
            }
        }

        long differsFrom(Variables from) {
            long any = 0L;
            for (int v = 0; v < VARIABLES; v++) {
                any |= all[v].differsFrom(from.all[v]);
            }
            return any;
        }
    }

    /** Masks, one on top of another. */
    private static final class Masks {
        private final long[] sets = new long[MOST_MASKS];
        private int height;

        boolean isFull() {
            return height >= MOST_MASKS;
        }

        void lie(long set) {
            if (height >= 0 && height < MOST_MASKS) {
                sets[height] = set;
                height++;
            }
        }

        void turn() {
            if (height > 0 && height <= MOST_MASKS) {
                sets[height - 1] = ~sets[height - 1];
            }
        }

        long common() {
            long lanes = -1L;
            for (int i = 0; i < MOST_MASKS && i < height; i++) {
                lanes &= sets[i];
            }
            return lanes;
        }

        void copyOf(Masks from) {
            System.arraycopy(from.sets, 0, sets, 0, MOST_MASKS);
            height = from.height;
        }
    }

    /** All that an image keeps. */
    private static final class Whole {
        private final Variables variables = new Variables();
        private final Masks masks = new Masks();
        private int edge;
        private int steps;
        // A program is never changed once it has been read, so an image may share it.
        private Program program;

        void copyOf(Whole from) {
            variables.copyOf(from.variables);
            masks.copyOf(from.masks);
            edge = from.edge;
            steps = from.steps;
            program = from.program;
        }
    }

    /** The bytes that a program is read from. */
    private static final class Tape {
        private final int[] bytes = new int[MOST_BYTES];
        private int length;

        void lengthen(int sign) {
            if (length >= 0 && length < MOST_BYTES) {
                bytes[length] = sign;
                length++;
            }
        }
    }

    /** A row of numbers of one sort, or none. */
    private static final class Shelf {
        private final long[] numbers = new long[LANES];
        private int sort = NONE;
        private int length;

        void begin(int newSort, int n) {
            sort = newSort;
            length = newSort == NONE ? 0 : Math.max(0, Math.min(n, LANES));
            Arrays.fill(numbers, 0L);
        }

        boolean isMissing() {
            return sort == NONE;
        }

        boolean has(int i) {
            return i >= 0 && i < length && i < LANES;
        }

        void set(int i, long x) {
            if (has(i)) {
                numbers[i] = narrow(x);
            }
        }

        private long narrow(long x) {
            switch (sort) {
                case 0:
                    return (byte) x;
                case 1:
                    return (short) x;
                case 2:
                    return (int) x;
                default:
                    return x;
            }
        }
    }

    /** E, told so that what a sign works on always stands ahead of it. */
    private static final class Formula {
        // Each word: a kind, times 256, and the number or variable that it tells.
        private final int[] words;
        private final int cost;

        Formula(int[] words, int cost) {
            this.words = words;
            this.cost = cost;
        }
    }

    /** S, with the one that comes behind it. */
    private static final class Deed {
        private static final int SET = 0;
        private static final int COME = 1;
        private static final int CHOOSE = 2;
        private static final int REPEAT = 3;

        private int kind;
        private int target;
        private int source;
        private int way;
        private Formula formula;
        private Deed inner;
        private Deed otherwise;
        private Deed next;
    }

    /** A program that has been read. */
    private static final class Program {
        private final Deed start;
        private final int deeds;

        Program(Deed start, int deeds) {
            this.start = start;
            this.deeds = deeds;
        }
    }

    /** Reads a program, a sign at a time, never going back: so where it stops is the fault. */
    private static final class Reader {
        private final Tape tape = new Tape();
        private final int[] words = new int[MOST_BYTES];
        private int size;
        private int cost;
        private int place;
        private int deeds;
        private int fault;

        Program read() {
            place = 0;
            deeds = 0;
            fault = NONE;
            Deed start = block(0, 0);
            if (place < tape.length) {
                fail();
            }
            return fault == NONE ? new Program(start, deeds) : null;
        }

        private int sign() {
            boolean isThere = place >= 0 && place < tape.length && place < MOST_BYTES;
            return isThere && fault == NONE ? tape.bytes[place] : NONE;
        }

        private void fail() {
            if (fault == NONE) {
                fault = place;
            }
        }

        private void take(char wanted) {
            if (sign() == wanted) {
                place++;
            } else {
                fail();
            }
        }

        private Deed block(int open, int loops) {
            Deed start = deed(open, loops);
            Deed last = start;
            for (int i = 0; i < MOST_BYTES && sign() == ';'; i++) {
                place++;
                Deed further = deed(open, loops);
                last.next = further;
                last = further;
            }
            return start;
        }

        private Deed deed(int open, int loops) {
            Deed deed = new Deed();
            deeds++;
            int sign = sign();
            if (sign >= 'a' && sign <= 'h') {
                become(deed);
            } else if (sign == '[' && open < MOST_OPEN) {
                choose(deed, open + 1, loops);
            } else if (sign == '{' && open < MOST_OPEN && loops < MOST_LOOPS) {
                repeat(deed, open + 1, loops + 1);
            } else {
                fail();
            }
            return deed;
        }

        private void become(Deed deed) {
            deed.target = takeVariable();
            if (sign() == '@') {
                place++;
                deed.kind = Deed.COME;
                deed.way = takeWay();
                deed.source = takeVariable();
            } else {
                take('=');
                deed.kind = Deed.SET;
                deed.formula = formula();
            }
        }

        private void choose(Deed deed, int open, int loops) {
            place++;
            deed.kind = Deed.CHOOSE;
            deed.formula = formula();
            take(':');
            deed.inner = block(open, loops);
            if (sign() == '|') {
                place++;
                deed.otherwise = block(open, loops);
            }
            take(']');
        }

        private void repeat(Deed deed, int open, int loops) {
            place++;
            deed.kind = Deed.REPEAT;
            deed.formula = formula();
            take(':');
            deed.inner = block(open, loops);
            take('}');
        }

        private int takeVariable() {
            int v = sign() - 'a';
            if (v < 0 || v >= VARIABLES) {
                fail();
                return 0;
            }
            place++;
            return v;
        }

        private int takeWay() {
            int way = NONE;
            switch (sign()) {
                case 'n':
                    way = NORTH;
                    break;
                case 'e':
                    way = EAST;
                    break;
                case 's':
                    way = SOUTH;
                    break;
                case 'w':
                    way = WEST;
                    break;
                default:
                    fail();
                    return NORTH;
            }
            place++;
            return way;
        }

        private Formula formula() {
            size = 0;
            cost = 0;
            compared(0);
            return new Formula(Arrays.copyOf(words, size), cost);
        }

        private void word(int kind, int x) {
            if (size < MOST_BYTES) {
                words[size] = kind * 256 + x;
                size++;
                cost += STEPS_OF[kind];
            }
        }

        private void compared(int nested) {
            added(nested);
            int sign = sign();
            if (sign == '<' || sign == '=') {
                place++;
                added(nested);
                word(sign == '<' ? LESS : SAME, 0);
            }
        }

        private void added(int nested) {
            multiplied(nested);
            for (int i = 0; i < MOST_BYTES && (sign() == '+' || sign() == '-'); i++) {
                int kind = sign() == '+' ? PLUS : MINUS;
                place++;
                multiplied(nested);
                word(kind, 0);
            }
        }

        private void multiplied(int nested) {
            unit(nested);
            for (int i = 0; i < MOST_BYTES && (sign() == '*' || sign() == '&'); i++) {
                int kind = sign() == '*' ? TIMES : BOTH;
                place++;
                unit(nested);
                word(kind, 0);
            }
        }

        private void unit(int nested) {
            int sign = sign();
            if (isDigit(sign)) {
                number();
            } else if (sign >= 'a' && sign <= 'h') {
                word(VARIABLE, takeVariable());
            } else if (sign == '#') {
                place++;
                word(LANE_NUMBER, 0);
            } else if (sign == '~' && nested < MOST_NESTED) {
                place++;
                unit(nested + 1);
                word(INVERSE, 0);
            } else if (sign == '(' && nested < MOST_NESTED) {
                place++;
                compared(nested + 1);
                take(')');
            } else {
                fail();
            }
        }

        private void number() {
            int begin = place;
            int x = 0;
            for (int i = 0; i < MOST_DIGITS && isDigit(sign()); i++) {
                x = x * 10 + sign() - '0';
                place++;
            }
            if (x > GREATEST) {
                place = begin;
                fail();
            } else {
                word(NUMBER, x);
            }
        }

        private static boolean isDigit(int sign) {
            return sign >= '0' && sign <= '9';
        }
    }

    /** Goes through a program with many lanes at once. */
    private static final class Walker {
        private final Slices[] held = new Slices[MOST_HELD];
        private final Slices come = new Slices();
        // Its own ones, so that what is gone through in thought alone touches nothing.
        private final Variables variables = new Variables();
        private int edge;
        private int taken;

        Walker() {
            for (int i = 0; i < MOST_HELD; i++) {
                held[i] = new Slices();
            }
        }

        int go(Whole whole, int n) {
            Program program = whole.program;
            if (program == null) {
                return 0;
            }
            edge = whole.edge;
            taken = 0;
            long mask = whole.masks.common();
            for (int i = 0; i < n && i < MOST_GOES; i++) {
                walk(program.start, mask, 0);
            }
            return taken;
        }

        private void walk(Deed start, long mask, int depth) {
            if (mask == 0L || depth > MOST_OPEN) {
                return;
            }
            for (Deed deed = start; deed != null; deed = deed.next) {
                switch (deed.kind) {
                    case Deed.SET:
                        variables.slices(deed.target).becomeIn(workOut(deed.formula), mask);
                        taken += STEPS_TO_COPY;
                        break;
                    case Deed.COME:
                        come.comeFrom(variables.slices(deed.source), deed.way, edge);
                        variables.slices(deed.target).becomeIn(come, mask);
                        taken += STEPS_TO_ROUTE;
                        break;
                    case Deed.CHOOSE:
                        choose(deed, mask, depth);
                        break;
                    default:
                        repeat(deed, mask, depth);
                        break;
                }
            }
        }

        private void choose(Deed deed, long mask, int depth) {
            long chosen = workOut(deed.formula).notZero();
            taken += STEPS_TO_CHOOSE;
            walk(deed.inner, mask & chosen, depth + 1);
            walk(deed.otherwise, mask & ~chosen, depth + 1);
        }

        private void repeat(Deed deed, long mask, int depth) {
            long left = mask;
            for (int turn = 0; turn < MOST_TURNS && left != 0L; turn++) {
                left &= workOut(deed.formula).notZero();
                taken += STEPS_TO_TURN;
                walk(deed.inner, left, depth + 1);
            }
        }

        private Slices workOut(Formula formula) {
            if (formula == null) {
                return held[0];
            }
            int height = 0;
            for (int word : formula.words) {
                int kind = word >> 8;
                if (kind < PAIRED && height >= 2) {
                    height--;
                    held[height - 1].pair(kind, held[height]);
                } else if (kind == INVERSE && height >= 1) {
                    held[height - 1].invert();
                } else if (height < MOST_HELD) {
                    hold(held[height], kind, word & 255);
                    height++;
                }
            }
            taken += formula.cost;
            return held[0];
        }

        private void hold(Slices place, int kind, int x) {
            if (kind == NUMBER) {
                place.setAll(x);
            } else if (kind == VARIABLE) {
                place.copyOf(variables.slices(x));
            } else {
                place.setLaneNumbers();
            }
        }
    }
}
