import java.util.function.ToIntFunction;

/** The promises, each sentence at its boundaries. */
final class PromiseSentences {
    private static final int BAD = Sentences.BAD;
    private static final int FULL = Sentences.FULL;
    private static final int STATE = Sentences.STATE;
    private static final int EMPTY = Sentences.EMPTY;
    private static final int PLACE = Sentences.PLACE;
    private static final int NONE = Sentences.NONE;
    private static final int MIN = Sentences.MIN;
    private static final int MAX = Sentences.MAX;
    private static final int[] NO_LANES = Sentences.NO_LANES;
    private static final int[] NO_VARIABLES = Sentences.NO_VARIABLES;
    private static final int[] NO_BITS = Sentences.NO_BITS;
    private static final int[] NO_NUMBERS = Sentences.NO_NUMBERS;
    private static final int[] NO_SHELVES = Sentences.NO_SHELVES;
    private static final int[] NO_TIMES = Sentences.NO_TIMES;

    private final Sentences s;

    PromiseSentences(Sentences sentences) {
        s = sentences;
    }

    void all() {
        newObject();
        lane();
        put();
        plane();
        lay();
        fill();
        does();
        route();
        edge();
        push();
        other();
        pop();
        active();
        reduce();
        part();
        rank();
        alike();
        region();
        regions();
        way();
        feed();
        wipe();
        text();
        run();
        then();
        steps();
        changed();
        settles();
        first();
        again();
        row();
        mark();
        at();
        load();
        store();
        judge();
        image();
        back();
        count();
        refused();
    }

    private void due(String what, long got, long want) {
        s.due(what, got, want);
    }

    private void stateless(int answers, ToIntFunction<LaneSlices> act) {
        LaneSlices x = new LaneSlices();
        due("on a new object", act.applyAsInt(x), answers);
        due("counted", x.refused(2), 1);
        due("nothing else counted", Make.refusals(x), 1);
    }

    // ---- lanes, planes

    private void newObject() {
        s.says(1, "All is 0; no MASKS, no PROGRAM.");
        LaneSlices x = new LaneSlices();
        for (int v = 0; v < 8; v++) {
            due("all 0", x.reduce(3, v), 0);
            due("one REGION", x.regions(v), 1);
        }
        for (int what = 0; what < 5; what++) {
            due("count(" + what + ")", x.count(what), 0);
            due("refused(" + what + ")", x.refused(what), 0);
        }
        due("no MASKS", x.active(), -1L);
        due("no MASKS", x.pop(), STATE);
        due("no PROGRAM", x.steps(0), STATE);
        due("no PROGRAM", x.changed(1), 0L);
        due("an empty TAPE", x.wipe(), 0);
        due("no image", x.back(), STATE);
        LaneSlices used = Make.with("a=1");
        used.run(1);
        used.push(0, 0);
        due("nothing of another object", new LaneSlices().count(3), 0);
    }

    private void lane() {
        s.says(2, "What a VARIABLE is in a LANE.");
        LaneSlices x = new LaneSlices();
        x.put(0, 0, 1);
        x.put(63, 7, 255);
        due("the first", x.lane(0, 0), 1);
        due("the last", x.lane(63, 7), 255);
        due("another LANE", x.lane(62, 7), 0);
        due("another VARIABLE", x.lane(63, 6), 0);
        s.says(2, "BAD.");
        s.refuses(x, BAD, n -> x.lane(n, 0), NO_LANES);
        s.refuses(x, BAD, n -> x.lane(0, n), NO_VARIABLES);
        due("both", x.lane(64, 8), BAD);
    }

    private void put() {
        s.says(3, "It becomes x (0 to 255), ACTIVE or not: what it was.");
        LaneSlices x = new LaneSlices();
        due("the greatest", x.put(63, 7, 255), 0);
        due("the least", x.put(63, 7, 0), 255);
        due("what it became", x.put(63, 7, 1), 0);
        x.push(0, 0);
        due("not ACTIVE", x.active(), 0L);
        due("not ACTIVE", x.put(0, 0, 128), 0);
        due("not ACTIVE", x.lane(0, 0), 128);
        due("the others", x.lane(1, 0), 0);
        s.says(3, "BAD.");
        s.refuses(x, BAD, n -> x.put(n, 0, 1), NO_LANES);
        s.refuses(x, BAD, n -> x.put(0, n, 1), NO_VARIABLES);
        s.refuses(x, BAD, n -> x.put(0, 0, n), NO_NUMBERS);
        due("it stays", x.lane(0, 0), 128);
    }

    private void plane() {
        s.says(4, "PLANE k of a VARIABLE.");
        LaneSlices x = new LaneSlices();
        x.put(0, 0, 1);
        x.put(63, 0, 129);
        due("PLANE 0", x.plane(0, 0), 1L << 63 | 1L);
        due("PLANE 7", x.plane(0, 7), 1L << 63);
        due("an empty one", x.plane(0, 3), 0L);
        x.fill(7, 255);
        due("a full one", x.plane(7, 7), -1L);
        due("no VARIABLE 8", x.plane(8, 7), 0L);
        due("no PLANE 8", x.plane(7, 8), 0L);
        due("no PLANE -1", x.plane(7, -1), 0L);
        due("nothing is refused", Make.refusals(x), 0);
    }

    private void lay() {
        s.says(5, "PLANE k of a VARIABLE becomes a set in ACTIVE LANES: how many LANES it has then.");
        LaneSlices x = new LaneSlices();
        due("all", x.lay(7, 7, -1L), 64);
        due("none", x.lay(7, 7, 0L), 0);
        due("the last", x.lay(7, 7, 1L << 63), 1);
        due("the last", x.lane(63, 7), 128);
        x.fill(0, 255);
        due("one PLANE alone", x.lay(0, 0, 0L), 0);
        due("one PLANE alone", x.lane(0, 0), 254);
        Make.only(x, 0xFL);
        due("in ACTIVE LANES", x.lay(0, 1, 0L), 60);
        due("in ACTIVE LANES", x.plane(0, 1), ~0xFL);
        x.push(6, 0);
        due("no LANE is ACTIVE", x.lay(0, 1, 0L), 60);
        s.says(5, "BAD.");
        s.refuses(x, BAD, n -> x.lay(n, 0, 0L), NO_VARIABLES);
        s.refuses(x, BAD, n -> x.lay(0, n, 0L), NO_BITS);
    }

    private void fill() {
        s.says(6, "A VARIABLE becomes x (0 to 255) in ACTIVE LANES: STEPS.");
        LaneSlices x = new LaneSlices();
        due("the greatest", x.fill(7, 255), 8);
        due("the greatest", x.reduce(2, 7), 255);
        due("the least", x.fill(7, 0), 8);
        due("the least", x.reduce(1, 7), 0);
        Make.only(x, 1L << 63);
        due("one LANE", x.fill(0, 200), 8);
        x.push(6, 0);
        due("no LANE", x.fill(0, 100), 8);
        x.pop();
        x.pop();
        due("one LANE", x.reduce(0, 0), 200);
        due("in all", x.count(0), 32);
        s.says(6, "BAD.");
        s.refuses(x, BAD, n -> x.fill(n, 0), NO_VARIABLES);
        s.refuses(x, BAD, n -> x.fill(0, n), NO_NUMBERS);
        due("in all", x.count(0), 32);
    }

    private void does() {
        s.says(7, "VARIABLE d becomes, in ACTIVE LANES, that of a and b: op 0 +, 1 -, 2 *, 3 &, 4 <, 5 =, "
            + "6 the lesser, 7 the greater: STEPS.");
        int[] steps = {16, 16, 136, 8, 9, 9, 17, 17};
        int[] made = {44, 100, 32, 64, 0, 0, 100, 200};
        int[] turned = {44, 156, 32, 64, 1, 0, 100, 200};
        int[] same = {144, 0, 64, 200, 0, 1, 200, 200};
        for (int op = 0; op < 8; op++) {
            LaneSlices x = new LaneSlices();
            x.fill(6, 200);
            x.fill(7, 100);
            Make.only(x, 1L << 63);
            x.fill(7, 100);
            int before = x.count(0);
            due("op " + op, x.does(op, 5, 6, 7), steps[op]);
            due("op " + op, x.lane(63, 5), made[op]);
            due("op " + op + ", not ACTIVE", x.lane(62, 5), 0);
            due("op " + op + ", d is a", x.does(op, 7, 7, 6), steps[op]);
            due("op " + op + ", d is a", x.lane(63, 7), turned[op]);
            x.fill(7, 200);
            due("op " + op + ", all one", x.does(op, 7, 7, 7), steps[op]);
            due("op " + op + ", all one", x.lane(63, 7), same[op]);
            x.fill(7, 100);
            due("op " + op + ", d is b", x.does(op, 7, 6, 7), steps[op]);
            due("op " + op + ", d is b", x.lane(63, 7), made[op]);
            due("STEPS", x.count(0), before + 4 * steps[op] + 16);
            x.push(4, 0);
            due("op " + op + ", no LANE is ACTIVE", x.does(op, 6, 7, 7), steps[op]);
            due("op " + op + ", no LANE is ACTIVE", x.lane(63, 6), 200);
        }
        s.says(7, "BAD.");
        LaneSlices x = new LaneSlices();
        s.takes(x, n -> x.does(n, 7, 7, 7), 0, 7);
        s.refuses(x, BAD, n -> x.does(n, 0, 0, 0), -1, 8, MIN, MAX);
        s.refuses(x, BAD, n -> x.does(0, n, 0, 0), NO_VARIABLES);
        s.refuses(x, BAD, n -> x.does(0, 0, n, 0), NO_VARIABLES);
        s.refuses(x, BAD, n -> x.does(0, 0, 0, n), NO_VARIABLES);
    }

    private void route() {
        s.says(8, "VARIABLE d becomes, in ACTIVE LANES, what a is in the LANE on a way from it (0, if there is none): "
            + "STEPS.");
        LaneSlices x = new LaneSlices();
        x.fill(6, 255);
        long[] rims = {0xFFL, 0x8080808080808080L, 0xFFL << 56, 0x0101010101010101L};
        for (int way = 0; way < 4; way++) {
            x.fill(5, 1);
            due("way " + way, x.route(5, 6, way), 8);
            due("way " + way + ", there is none", x.plane(5, 0), ~rims[way]);
            due("way " + way + ", all bits", x.plane(5, 7), ~rims[way]);
        }
        due("STEPS", x.count(0), 8 + 4 * 16);
        due("to itself", x.route(6, 6, 0), 8);
        due("to itself", x.plane(6, 7), ~0xFFL);
        Make.only(x, 2L);
        x.route(4, 6, 2);
        due("one ACTIVE LANE, from one that isn't", x.plane(4, 7), 2L);
        x.push(3, 0);
        due("no LANE is ACTIVE", x.route(6, 4, 0), 8);
        due("no LANE is ACTIVE", x.plane(6, 7), ~0xFFL);
        s.says(8, "BAD.");
        s.refuses(x, BAD, n -> x.route(n, 0, 0), NO_VARIABLES);
        s.refuses(x, BAD, n -> x.route(0, n, 0), NO_VARIABLES);
        s.refuses(x, BAD, n -> x.route(0, 0, n), -1, 4, MIN, MAX);
    }

    private void edge() {
        s.says(9, "EDGE becomes 0 or 1: what it was.");
        LaneSlices x = new LaneSlices();
        due("0 at first", x.edge(0), 0);
        due("what it was", x.edge(1), 0);
        due("what it was", x.edge(1), 1);
        due("what it is", x.count(4), 1);
        due("what it was", x.edge(0), 1);
        due("what it is", x.count(4), 0);
        s.says(9, "BAD.");
        s.refuses(x, BAD, x::edge, -1, 2, MIN, MAX);
        x.edge(1);
        s.refuses(x, BAD, x::edge, -1, 2, MIN, MAX);
        due("it stays", x.count(4), 1);
    }

    // ---- masks

    private void push() {
        s.says(10, "A MASK more: LANES in which bit k of a VARIABLE is 1: how many LANES are ACTIVE then.");
        LaneSlices x = Make.numbered();
        x.fill(7, 128);
        due("all", x.push(7, 7), 64);
        due("half", x.push(0, 0), 32);
        due("of these half", x.push(0, 5), 16);
        due("the same again", x.push(0, 5), 16);
        x.put(63, 0, 0);
        due("a MASK stays when its VARIABLE doesn't", x.active(), 0xAAAAAAAA00000000L);
        due("none", x.push(0, 7), 0);
        due("none of none", x.push(7, 7), 0);
        s.says(10, "BAD; FULL.");
        s.refuses(x, BAD, n -> x.push(n, 0), NO_VARIABLES);
        s.refuses(x, BAD, n -> x.push(0, n), NO_BITS);
        due("refused ones are no MASKS", x.count(1), 6);
        due("the seventh", x.push(7, 7), 0);
        due("the eighth", x.push(7, 7), 0);
        s.refuses(x, FULL, n -> x.push(n, 7), 0, 7);
        due("eight", x.count(1), 8);
        x.pop();
        due("the eighth again", x.push(7, 7), 0);
    }

    private void other() {
        s.says(11, "The topmost MASK becomes all LANES that are not in it: how many are ACTIVE then.");
        LaneSlices x = Make.numbered();
        x.push(0, 5);
        x.push(0, 6);
        due("of none, all", x.other(), 32);
        due("the topmost alone", x.active(), 0xFFFFFFFF00000000L);
        due("of all, none", x.other(), 0);
        x.pop();
        due("the one below", x.other(), 32);
        due("the one below", x.active(), 0xFFFFFFFFL);
        LaneSlices y = new LaneSlices();
        y.fill(0, 1);
        for (int i = 0; i < 8; i++) {
            y.push(0, 0);
        }
        due("of the eighth", y.other(), 0);
        due("of the eighth", y.other(), 64);
        s.says(11, "STATE: there is none.");
        stateless(STATE, LaneSlices::other);
        x.pop();
        due("none is left", x.other(), STATE);
        due("all are ACTIVE", x.active(), -1L);
    }

    private void pop() {
        s.says(12, "The topmost MASK is taken off: how many LANES are ACTIVE then.");
        LaneSlices x = Make.numbered();
        for (int k = 0; k < 6; k++) {
            x.push(0, k);
        }
        for (int k = 5; k >= 0; k--) {
            due("MASKS left " + k, x.pop(), 64 >> k);
            due("MASKS left " + k, x.count(1), k);
        }
        s.says(12, "STATE: there is none.");
        stateless(STATE, LaneSlices::pop);
        due("the last is off", x.pop(), STATE);
        due("not below 0", x.count(1), 0);
        due("a first again", x.push(0, 0), 32);
    }

    private void active() {
        s.says(13, "ACTIVE LANES.");
        LaneSlices x = Make.numbered();
        due("all", x.active(), -1L);
        x.push(0, 5);
        due("half", x.active(), 0xFFFFFFFF00000000L);
        x.push(0, 6);
        due("none", x.active(), 0L);
        x.other();
        due("half", x.active(), 0xFFFFFFFF00000000L);
        x.put(63, 1, 1);
        x.push(1, 0);
        due("the last", x.active(), 1L << 63);
    }

    // ---- all together

    private void reduce() {
        s.says(14, "Of a VARIABLE in ACTIVE LANES: what 0 the sum, 1 the greatest, 2 the least, 3 all bits that are 1 "
            + "in any, 4 in all, 5 how many aren't 0, 6 the first LANE that has the greatest.");
        int[] nothing = {0, 0, 0, 0, 0, 0, 0};
        int[] most = {64 * 255, 255, 255, 255, 255, 64, 0};
        int[] last = {255, 255, 0, 255, 0, 1, 63};
        int[] one = {255, 255, 255, 255, 255, 1, 63};
        int[] hole = {63 * 255, 255, 0, 255, 0, 63, 1};
        LaneSlices x = new LaneSlices();
        x.fill(6, 255);
        x.put(63, 5, 255);
        x.fill(4, 255);
        x.put(0, 4, 0);
        for (int what = 0; what < 7; what++) {
            due("all 0, " + what, x.reduce(what, 0), nothing[what]);
            due("all 255, " + what, x.reduce(what, 6), most[what]);
            due("255 in the last, " + what, x.reduce(what, 5), last[what]);
            due("0 in the first, " + what, x.reduce(what, 4), hole[what]);
        }
        for (int k = 0; k < 8; k++) {
            // Bit k alone is above all the bits below it.
            x.fill(3, (1 << k) - 1);
            x.put(40, 3, 1 << k);
            due("the greatest by bit " + k, x.reduce(1, 3), 1 << k);
            due("its LANE by bit " + k, x.reduce(6, 3), 40);
            x.fill(3, 1 << k);
            x.put(40, 3, (1 << k) - 1);
            due("the least by bit " + k, x.reduce(2, 3), (1 << k) - 1);
        }
        Make.only(x, 1L << 63);
        for (int what = 0; what < 7; what++) {
            due("one ACTIVE LANE, " + what, x.reduce(what, 4), one[what]);
        }
        s.says(14, "NONE (1, 2, 6): no LANE is ACTIVE (3: 0, 4: 255 then).");
        x.push(0, 0);
        int[] none = {0, NONE, NONE, 0, 255, 0, NONE};
        for (int what = 0; what < 7; what++) {
            due("no LANE, " + what, x.reduce(what, 6), none[what]);
            due("no LANE, all 0, " + what, x.reduce(what, 0), none[what]);
        }
        due("no REFUSAL", Make.refusals(x), 0);
        s.says(14, "BAD.");
        s.refuses(x, BAD, n -> x.reduce(n, 0), -1, 7, MIN, MAX);
        s.refuses(x, BAD, n -> x.reduce(0, n), NO_VARIABLES);
        s.refuses(x, BAD, n -> x.reduce(1, n), NO_VARIABLES);
    }

    private void part() {
        s.says(15, "The sum of a VARIABLE over those ACTIVE of the LANES in block i of 2 to the level LANES (level 0 "
            + "to 6; blocks by LANES, from 0 on).");
        LaneSlices x = Make.numbered();
        x.fill(6, 255);
        for (int level = 0; level < 7; level++) {
            int size = 1 << level;
            int blocks = 64 / size;
            due("the first block, " + level, x.part(0, level, 0), size * (size - 1) / 2);
            due("the last block, " + level, x.part(0, level, blocks - 1), size * (64 - size) + size * (size - 1) / 2);
            due("the most, " + level, x.part(6, level, blocks - 1), size * 255);
        }
        Make.only(x, 1L << 63 | 1L);
        due("those ACTIVE", x.part(6, 6, 0), 510);
        due("those ACTIVE", x.part(6, 5, 1), 255);
        due("none of them ACTIVE", x.part(6, 4, 1), 0);
        due("not ACTIVE", x.part(6, 0, 1), 0);
        due("ACTIVE", x.part(6, 0, 63), 255);
        s.says(15, "BAD.");
        s.refuses(x, BAD, n -> x.part(n, 0, 0), NO_VARIABLES);
        s.refuses(x, BAD, n -> x.part(0, n, 0), -1, 7, 32, 64, MIN, MAX);
        for (int level = 0; level < 7; level++) {
            int at = level;
            s.takes(x, n -> x.part(0, at, n), 0, (64 >> level) - 1);
            s.refuses(x, BAD, n -> x.part(0, at, n), -1, 64 >> level, MIN, MAX);
        }
    }

    private void rank() {
        s.says(16, "How many ACTIVE LANES have less of a VARIABLE than a LANE (ACTIVE or not).");
        LaneSlices x = new LaneSlices();
        due("all the same", x.rank(0, 0), 0);
        x.put(63, 0, 255);
        due("the greatest", x.rank(63, 0), 63);
        due("the least", x.rank(0, 0), 0);
        x.put(62, 0, 254);
        due("one less", x.rank(62, 0), 62);
        x.put(61, 0, 255);
        due("as great", x.rank(63, 0), 62);
        Make.only(x, 0x7L);
        due("not ACTIVE", x.rank(63, 0), 3);
        due("ACTIVE", x.rank(0, 0), 0);
        x.push(6, 0);
        due("no LANE is ACTIVE", x.rank(63, 0), 0);
        s.says(16, "BAD.");
        s.refuses(x, BAD, n -> x.rank(n, 0), NO_LANES);
        s.refuses(x, BAD, n -> x.rank(0, n), NO_VARIABLES);
    }

    private void alike() {
        s.says(17, "LANES in which all VARIABLES are as in a LANE.");
        for (int v = 0; v < 8; v++) {
            for (int k = 0; k < 8; k++) {
                LaneSlices x = new LaneSlices();
                x.put(63, v, 1 << k);
                due("one bit is another, " + v + ", " + k, x.alike(63), 1L << 63);
                due("one bit is another, " + v + ", " + k, x.alike(0), ~(1L << 63));
            }
        }
        LaneSlices x = new LaneSlices();
        due("all", x.alike(63), -1L);
        x.push(0, 0);
        due("no LANE is ACTIVE", x.alike(0), -1L);
        due("no LANE -1", x.alike(-1), 0L);
        due("no LANE 64", x.alike(64), 0L);
        due("nothing is refused", Make.refusals(x), 0);
        due("each by itself", Make.numbered().alike(5), 1L << 5);
    }

    private void region() {
        s.says(18, "The REGION of a LANE by a VARIABLE.");
        LaneSlices x = Make.numbered();
        due("each by itself", x.region(0, 0), 1L);
        due("each by itself", x.region(63, 0), 1L << 63);
        due("all", x.region(63, 7), -1L);
        x.push(7, 0);
        due("no LANE is ACTIVE", x.region(63, 7), -1L);
        due("no LANE 64", x.region(64, 7), 0L);
        due("no LANE -1", x.region(-1, 7), 0L);
        due("no VARIABLE 8", x.region(0, 8), 0L);
        due("no VARIABLE -1", x.region(0, -1), 0L);
        due("nothing is refused", Make.refusals(x), 0);
    }

    private void regions() {
        s.says(19, "How many REGIONS there are by a VARIABLE.");
        LaneSlices x = Make.numbered();
        due("the most", x.regions(0), 64);
        due("the fewest", x.regions(7), 1);
        x.lay(1, 0, 0xAA55AA55AA55AA55L);
        due("two numbers, none beside its like", x.regions(1), 64);
        x.lay(2, 7, 1L << 63);
        due("a corner", x.regions(2), 2);
        x.lay(3, 0, 0xFFL << 32);
        due("two sides of a row", x.regions(3), 3);
        x.edge(1);
        due("two sides of a row, EDGE 1", x.regions(3), 2);
        x.push(7, 7);
        due("no LANE is ACTIVE", x.regions(3), 2);
        s.says(19, "BAD.");
        s.takes(x, x::regions, 0, 7);
        s.refuses(x, BAD, x::regions, NO_VARIABLES);
    }

    private void way() {
        s.says(20, "The fewest moves of a WAY by a VARIABLE (0: from a LANE to itself); NONE: there is none.");
        LaneSlices x = new LaneSlices();
        due("from a 0 to itself", x.way(63, 63, 0), NONE);
        x.fill(0, 128);
        due("to itself", x.way(63, 63, 0), 0);
        due("to the other corner", x.way(0, 63, 0), 14);
        due("to the other corner", x.way(56, 7, 0), 14);
        x.edge(1);
        due("the fewest around", x.way(0, 63, 0), 2);
        due("the farthest around", x.way(0, 36, 0), 8);
        x.edge(0);
        x.put(0, 0, 0);
        due("from a 0", x.way(0, 63, 0), NONE);
        due("to a 0", x.way(63, 0, 0), NONE);
        x.lay(1, 0, 0x80FF01FF80FF01FFL);
        due("a winding one", x.way(7, 63, 1), 35);
        x.lay(1, 0, 0x80FF01FF80FF00FFL);
        due("a hole in it", x.way(7, 63, 1), NONE);
        x.push(7, 7);
        due("no LANE is ACTIVE", x.way(1, 63, 0), 13);
        due("no REFUSAL", Make.refusals(x), 0);
        s.says(20, "BAD.");
        s.refuses(x, BAD, n -> x.way(n, 0, 0), NO_LANES);
        s.refuses(x, BAD, n -> x.way(0, n, 0), NO_LANES);
        s.refuses(x, BAD, n -> x.way(0, 0, n), NO_VARIABLES);
        due("to itself, but no LANE", x.way(64, 64, 0), BAD);
    }

    // ---- programs

    private void feed() {
        s.says(21, "The n lowest bytes (1 to 8) of a number, the lowest first, come behind THE TAPE: how many it has.");
        LaneSlices x = new LaneSlices();
        due("one byte", x.feed(0xFFFFFFFFFFFFFF00L | 'a', 1), 1);
        due("eight bytes", x.feed(0x31323D623B31323DL, 8), 9);
        due("what they tell", x.text(), 2);
        due("what they tell", x.then(1, 0, 0), 21);
        due("the highest byte last", x.then(1, 0, 1), 21);
        for (int i = 1; i <= 160; i++) {
            due("byte " + i, x.feed(0L, 1), i);
        }
        s.says(21, "BAD; FULL.");
        LaneSlices y = new LaneSlices();
        s.takes(y, n -> y.feed(0L, n), 1, 8);
        s.refuses(y, BAD, n -> y.feed(0L, n), 0, 9, -1, MIN, MAX);
        due("refused ones aren't there", y.count(2), 9);
        for (int length = 17; length <= 153; length += 8) {
            due("eight more", y.feed(0L, 8), length);
        }
        s.refuses(y, FULL, n -> y.feed(0L, n), 8);
        due("none of the eight", y.count(2), 153);
        due("as many as there is room for", y.feed(0L, 7), 160);
        s.refuses(y, FULL, n -> y.feed(0L, n), 1, 2, 8);
        s.refuses(y, BAD, n -> y.feed(0L, n), 0, 9, MIN, MAX);
        due("full", y.wipe(), 160);
        due("room again", y.feed(0L, 8), 8);
    }

    private void wipe() {
        s.says(22, "THE TAPE is empty then: how many it had.");
        LaneSlices x = new LaneSlices();
        due("it had none", x.wipe(), 0);
        x.feed(0L, 1);
        due("it had one", x.wipe(), 1);
        due("it is empty", x.count(2), 0);
        for (int i = 0; i < 20; i++) {
            x.feed(-1L, 8);
        }
        due("it was full", x.wipe(), 160);
        due("it is empty", x.wipe(), 0);
        due("nothing is left on it", Make.read(x, "a=1"), 1);
        Make.feedAll(x, "??");
        x.wipe();
        due("the PROGRAM stays", x.then(1, 0, 0), 1);
    }

    private void text() {
        s.says(23, "THE TAPE, which is empty then, is the PROGRAM, in place of one ahead: how many S (all, those "
            + "within others, too); -10 less its FAULT (no REFUSAL; the one ahead stays).");
        LaneSlices x = new LaneSlices();
        due("an empty TAPE", x.text(), -10);
        due("no PROGRAM", x.run(1), STATE);
        due("one S", Make.read(x, "a=1"), 1);
        due("THE TAPE is empty", x.count(2), 0);
        due("those within others", Make.read(x, "[1:b=1;{0:c=1}|[0:d=1|e=1]]"), 7);
        due("in place of one ahead", x.then(1, 0, 0), 0);
        due("in place of one ahead", x.then(1, 0, 1), 1);
        due("at fault", Make.read(x, "a=9;b"), -15);
        due("THE TAPE is empty", x.count(2), 0);
        due("the one ahead stays", x.count(3), 7);
        due("the one ahead stays", x.then(1, 0, 1), 1);
        due("an empty TAPE", x.text(), -10);
        due("the one ahead stays", x.count(3), 7);
        due("the last place", Make.read(x, "a=b" + ";a=b".repeat(38) + ";a=b;"), -170);
        due("no REFUSAL but of run()", Make.refusals(x), 1);
        due("the most S", Make.read(x, "a=b" + ";a=b".repeat(39)), 40);
        due("STEPS aren't taken", x.count(0), 0);
    }

    private void run() {
        s.says(24, "The PROGRAM is gone through n times (1 to 30): STEPS.");
        LaneSlices x = Make.with("a=a+1");
        due("once", x.run(1), 32);
        due("once", x.lane(63, 0), 1);
        due("30 times", x.run(30), 960);
        due("30 times", x.lane(63, 0), 31);
        for (int i = 0; i < 8; i++) {
            x.run(30);
        }
        due("around 256", x.lane(63, 0), 271 - 256);
        due("in all", x.count(0), 271 * 32);
        s.says(24, "BAD; STATE: there is none.");
        s.refuses(x, BAD, x::run, 0, -1, 31, MIN, MAX);
        due("it stays", x.lane(63, 0), 15);
        due("it stays", x.count(0), 271 * 32);
        stateless(STATE, y -> y.run(1));
        stateless(STATE, y -> y.run(30));
        due("BAD ahead", new LaneSlices().run(0), BAD);
    }

    private void then() {
        s.says(25, "What a VARIABLE is in a LANE, the PROGRAM gone through n times.");
        LaneSlices x = Make.with("h=h+#");
        due("no times", x.then(0, 63, 7), 0);
        due("once", x.then(1, 63, 7), 63);
        due("30 times", x.then(30, 63, 7), 30 * 63 % 256);
        due("it stays", x.lane(63, 7), 0);
        s.says(25, "BAD; STATE: there is no PROGRAM.");
        s.refuses(x, BAD, n -> x.then(n, 0, 0), NO_TIMES);
        s.refuses(x, BAD, n -> x.then(0, n, 0), NO_LANES);
        s.refuses(x, BAD, n -> x.then(0, 0, n), NO_VARIABLES);
        stateless(STATE, y -> y.then(0, 0, 0));
        stateless(STATE, y -> y.then(30, 63, 7));
        due("BAD ahead", new LaneSlices().then(31, 0, 0), BAD);
    }

    private void steps() {
        s.says(26, "How many STEPS the PROGRAM takes, gone through n times.");
        LaneSlices x = Make.with("[a<2:a=a+1]");
        // E: 17, and 2; P: 32, as long as there is a LANE that does it.
        due("no times", x.steps(0), 0);
        due("once", x.steps(1), 51);
        due("twice", x.steps(2), 102);
        due("30 times", x.steps(30), 102 + 28 * 19);
        due("none are taken", x.count(0), 0);
        x.push(7, 7);
        due("no LANE is ACTIVE", x.steps(30), 0);
        s.says(26, "BAD; STATE.");
        s.refuses(x, BAD, x::steps, NO_TIMES);
        stateless(STATE, y -> y.steps(0));
        stateless(STATE, y -> y.steps(30));
        due("BAD ahead", new LaneSlices().steps(-1), BAD);
    }

    private void changed() {
        s.says(27, "LANES in which some VARIABLE is another one, the PROGRAM gone through n times; 0 also: "
            + "no PROGRAM.");
        LaneSlices x = Make.with("[#=0:a=1];[#=63:h=h+128]");
        due("no times", x.changed(0), 0L);
        due("once", x.changed(1), 1L << 63 | 1L);
        due("twice, one as it was", x.changed(2), 1L);
        due("29 times", x.changed(29), 1L << 63 | 1L);
        due("30 times", x.changed(30), 1L);
        due("31 times", x.changed(31), 0L);
        due("-1 times", x.changed(-1), 0L);
        due("it stays", x.lane(0, 0), 0);
        for (int v = 0; v < 8; v++) {
            LaneSlices one = Make.with((char) ('a' + v) + "=#&32");
            due("VARIABLE " + v, one.changed(1), 0xFFFFFFFF00000000L);
        }
        x.push(7, 0);
        due("no LANE is ACTIVE", x.changed(1), 0L);
        LaneSlices y = new LaneSlices();
        y.fill(0, 9);
        due("no PROGRAM", y.changed(1), 0L);
        due("no PROGRAM", y.changed(31), 0L);
        due("nothing is refused", Make.refusals(x) + Make.refusals(y), 0);
    }

    private void settles() {
        s.says(28, "Gone through how many times (0 to 30) all is as gone through once more; NONE.");
        int[] limits = {0, 1, 2, 29, 30, 31, 32, 255};
        for (int limit : limits) {
            LaneSlices x = Make.with("[#=63:[h<" + limit + ":h=h+1]]");
            due("after " + limit, x.settles(), limit > 30 ? NONE : limit);
            due("it stays", x.lane(63, 7), 0);
            due("no STEPS", x.count(0), 0);
        }
        due("there and back", Make.with("a=1-a").settles(), NONE);
        for (int v = 0; v < 8; v++) {
            char name = (char) ('a' + v);
            due("VARIABLE " + v, Make.with(name + "=128").settles(), 1);
        }
        LaneSlices x = Make.with("a=a+1");
        due("no REFUSAL", Make.refusals(x), 0);
        x.push(7, 0);
        due("no LANE is ACTIVE", x.settles(), 0);
        s.says(28, "STATE: no PROGRAM.");
        stateless(STATE, LaneSlices::settles);
    }

    private void first() {
        s.says(29, "Gone through how many times (0 to 30) a VARIABLE is x in a LANE first; NONE.");
        LaneSlices x = Make.with("h=h+1;a=2-a");
        due("it is already", x.first(63, 7, 0), 0);
        due("once", x.first(63, 7, 1), 1);
        due("30 times", x.first(63, 7, 30), 30);
        due("31 times", x.first(63, 7, 31), NONE);
        due("never", x.first(63, 1, 1), NONE);
        due("the first of many times", x.first(0, 0, 2), 1);
        x.fill(7, 255);
        due("around 256", x.first(63, 7, 0), 1);
        due("the greatest", x.first(63, 7, 255), 0);
        due("it stays", x.lane(63, 7), 255);
        due("no REFUSAL", Make.refusals(x), 0);
        s.says(29, "BAD; STATE.");
        s.refuses(x, BAD, n -> x.first(n, 0, 0), NO_LANES);
        s.refuses(x, BAD, n -> x.first(0, n, 0), NO_VARIABLES);
        s.refuses(x, BAD, n -> x.first(0, 0, n), NO_NUMBERS);
        stateless(STATE, y -> y.first(0, 0, 0));
        stateless(STATE, y -> y.first(63, 7, 255));
        due("BAD ahead", new LaneSlices().first(0, 8, 0), BAD);
    }

    private void again() {
        s.says(30, "Gone through how many times (1 to 30) all VARIABLES are first as they are now; NONE.");
        int[] rounds = {1, 2, 3, 29, 30, 31, 32, 256};
        for (int round : rounds) {
            LaneSlices x = Make.with("[#=63:[h=" + (round - 1) + ":h=0|h=h+1]]");
            due("a round of " + round, x.again(), round > 30 ? NONE : round);
            due("it stays", x.lane(63, 7), 0);
            due("no REFUSAL", Make.refusals(x), 0);
        }
        due("nothing ever changes", Make.with("a=a").again(), 1);
        due("all of them", Make.with("[a=1:a=0|a=a+1];[h=2:h=0|h=h+1]").again(), 6);
        due("never as now", Make.with("a=1").again(), NONE);
        LaneSlices x = Make.with("a=a+1");
        x.push(7, 0);
        due("no LANE is ACTIVE", x.again(), 1);
        s.says(30, "STATE.");
        stateless(STATE, LaneSlices::again);
    }

    // ---- shelves

    private void row() {
        s.says(31, "A SHELF is a row of n of a SORT, all 0 (SORT -1: missing, n doesn't matter): 1.");
        for (int sort = 0; sort < 4; sort++) {
            LaneSlices x = new LaneSlices();
            due("64 numbers", x.row(3, sort, 64), 1);
            x.mark(3, 63, 77L);
            due("the last number", x.at(3, 63), 77L);
            due("once more", x.row(3, sort, 64), 1);
            due("all 0", x.at(3, 63), 0L);
            due("no numbers", x.row(3, sort, 0), 1);
            due("no numbers", x.store(0, 3), 0);
            due("missing", x.row(3, -1, 0), 1);
            due("missing", x.store(0, 3), EMPTY);
            due("missing already", x.row(3, -1, 64), 1);
        }
        LaneSlices x = new LaneSlices();
        s.takes(x, n -> x.row(0, -1, n), 65, -1, MIN, MAX);
        s.says(31, "BAD: also n above 64; PLACE: n below 0.");
        x.row(0, 1, 6);
        x.mark(0, 5, 9L);
        s.refuses(x, BAD, n -> x.row(n, 0, 1), NO_SHELVES);
        s.refuses(x, BAD, n -> x.row(n, -1, 1), NO_SHELVES);
        s.refuses(x, BAD, n -> x.row(0, n, 1), -2, 4, MIN, MAX);
        s.refuses(x, BAD, n -> x.row(0, 0, n), 65, MAX);
        s.refuses(x, PLACE, n -> x.row(0, 0, n), -1, MIN);
        due("the row stays", x.at(0, 5), 9L);
    }

    private void mark() {
        s.says(32, "Number i of a SHELF becomes v: 1.");
        LaneSlices x = new LaneSlices();
        for (int k = 0; k < 4; k++) {
            x.row(k, 3, 64);
            due("the first", x.mark(k, 0, 10L + k), 1);
            due("the last", x.mark(k, 63, Long.MIN_VALUE + k), 1);
        }
        for (int k = 0; k < 4; k++) {
            due("the first", x.at(k, 0), 10L + k);
            due("the last", x.at(k, 63), Long.MIN_VALUE + k);
            due("the others", x.at(k, 62), 0L);
        }
        s.says(32, "BAD: no such SHELF; EMPTY; PLACE.");
        s.refuses(x, BAD, n -> x.mark(n, 0, 1L), NO_SHELVES);
        s.refuses(x, PLACE, n -> x.mark(0, n, 1L), -1, 64, MIN, MAX);
        x.row(0, 3, 5);
        s.refuses(x, PLACE, n -> x.mark(0, n, 1L), -1, 5, 63);
        x.row(0, 3, 0);
        s.refuses(x, PLACE, n -> x.mark(0, n, 1L), -1, 0);
        x.row(0, -1, 5);
        s.refuses(x, EMPTY, n -> x.mark(0, n, 1L), -1, 0, 64);
    }

    private void at() {
        s.says(33, "Number i of a SHELF; 0 also: no such SHELF, no row, no such place (nothing is refused).");
        LaneSlices x = new LaneSlices();
        due("no row at first", x.at(0, 0), 0L);
        for (int k = 0; k < 4; k++) {
            x.row(k, 3, 64);
            x.mark(k, 0, 7L);
            x.mark(k, 63, 8L);
        }
        due("the first", x.at(0, 0), 7L);
        due("the last", x.at(3, 63), 8L);
        for (int bad : NO_SHELVES) {
            due("no SHELF " + bad, x.at(bad, 0), 0L);
        }
        for (int bad : NO_LANES) {
            due("no place " + bad, x.at(0, bad), 0L);
        }
        x.row(0, 3, 1);
        x.mark(0, 0, 7L);
        due("behind a short row", x.at(0, 1), 0L);
        due("behind a short row", x.at(0, 63), 0L);
        x.row(0, -1, 64);
        due("no row", x.at(0, 0), 0L);
        due("nothing is refused", Make.refusals(x), 0);
    }

    private void load() {
        s.says(34, "LANE 0 on: a VARIABLE becomes, in ACTIVE LANES, the lowest 8 bits of the SHELF's number of the "
            + "same place (beyond its end LANES stay): how many did.");
        for (int length : new int[] {0, 1, 63, 64}) {
            LaneSlices x = new LaneSlices();
            x.fill(7, 9);
            x.row(3, 1, length);
            due("of " + length, x.load(7, 3), length);
            due("the others stay", x.reduce(0, 7), 9 * (64 - length));
        }
        LaneSlices x = new LaneSlices();
        x.row(0, 3, 64);
        x.mark(0, 0, 256L);
        x.mark(0, 1, 255L);
        x.mark(0, 2, -1L);
        x.mark(0, 3, Long.MIN_VALUE + 128L);
        x.fill(0, 9);
        x.load(0, 0);
        due("256", x.lane(0, 0), 0);
        due("255", x.lane(1, 0), 255);
        due("-1", x.lane(2, 0), 255);
        due("far below 0", x.lane(3, 0), 128);
        x.fill(0, 9);
        Make.only(x, 1L << 63 | 2L);
        due("in ACTIVE LANES", x.load(0, 0), 2);
        due("in ACTIVE LANES", x.lane(1, 0), 255);
        due("in ACTIVE LANES", x.lane(63, 0), 0);
        due("not ACTIVE", x.lane(2, 0), 9);
        x.row(1, 0, 1);
        due("a row too short for the ACTIVE ones", x.load(0, 1), 0);
        x.push(6, 0);
        due("no LANE is ACTIVE", x.load(0, 0), 0);
        s.says(34, "BAD; EMPTY.");
        s.refuses(x, BAD, n -> x.load(n, 0), NO_VARIABLES);
        s.refuses(x, BAD, n -> x.load(0, n), NO_SHELVES);
        s.refuses(x, EMPTY, n -> x.load(0, n), 2, 3);
        s.refuses(x, BAD, n -> x.load(n, 2), NO_VARIABLES);
        x.row(0, -1, 0);
        s.refuses(x, EMPTY, n -> x.load(0, n), 0);
    }

    private void store() {
        s.says(35, "Numbers of a SHELF become a VARIABLE in LANES 0, 1, .. (ACTIVE or not), as far as it goes: "
            + "how many.");
        for (int length : new int[] {0, 1, 63, 64}) {
            LaneSlices x = Make.numbered();
            x.row(3, 3, length);
            due("of " + length, x.store(0, 3), length);
            due("the last", x.at(3, length - 1), Math.max(0, length - 1));
            due("behind it", x.at(3, length), 0L);
        }
        LaneSlices x = new LaneSlices();
        x.fill(7, 255);
        x.put(1, 7, 127);
        x.put(2, 7, 128);
        x.push(0, 0);
        x.row(0, 0, 3);
        x.row(1, 1, 3);
        due("no LANE is ACTIVE", x.store(7, 0), 3);
        due("no LANE is ACTIVE", x.store(7, 1), 3);
        due("255 as a byte", x.at(0, 0), -1L);
        due("127 as a byte", x.at(0, 1), 127L);
        due("128 as a byte", x.at(0, 2), -128L);
        due("255 as a short", x.at(1, 0), 255L);
        s.says(35, "BAD; EMPTY.");
        s.refuses(x, BAD, n -> x.store(n, 0), NO_VARIABLES);
        s.refuses(x, BAD, n -> x.store(0, n), NO_SHELVES);
        s.refuses(x, EMPTY, n -> x.store(0, n), 2, 3);
        s.refuses(x, BAD, n -> x.store(n, 2), NO_VARIABLES);
        due("the row stays", x.at(0, 0), -1L);
    }

    private void judge() {
        s.says(36, "The first place at which a SHELF's number isn't a VARIABLE in that LANE; NONE: there is none.");
        LaneSlices x = new LaneSlices();
        x.row(0, 3, 64);
        due("all are", x.judge(7, 0), NONE);
        x.put(63, 7, 1);
        due("the last isn't", x.judge(7, 0), 63);
        x.put(0, 7, 1);
        due("the first isn't", x.judge(7, 0), 0);
        x.mark(0, 0, 257L);
        due("the lowest bits alone aren't enough", x.judge(7, 0), 0);
        x.mark(0, 0, 1L << 32 | 1L);
        due("the lowest bits alone aren't enough", x.judge(7, 0), 0);
        x.mark(0, 0, 1L);
        x.push(6, 0);
        due("no LANE is ACTIVE", x.judge(7, 0), 63);
        x.row(1, 0, 1);
        x.store(7, 1);
        due("as far as it goes", x.judge(7, 1), NONE);
        x.put(0, 7, 128);
        x.store(7, 1);
        due("a byte below 0", x.judge(7, 1), 0);
        x.row(1, 0, 0);
        due("an empty row", x.judge(7, 1), NONE);
        due("no REFUSAL", Make.refusals(x), 0);
        s.says(36, "BAD; EMPTY.");
        s.refuses(x, BAD, n -> x.judge(n, 0), NO_VARIABLES);
        s.refuses(x, BAD, n -> x.judge(0, n), NO_SHELVES);
        s.refuses(x, EMPTY, n -> x.judge(0, n), 2, 3);
        s.refuses(x, BAD, n -> x.judge(n, 2), NO_VARIABLES);
    }

    // ---- images

    private void image() {
        s.says(37, "All is kept but THE TAPE, SHELVES, REFUSALS: STEPS taken in all so far.");
        LaneSlices x = new LaneSlices();
        due("of a new object", x.image(), 0);
        Make.read(x, "h=h+1");
        x.fill(0, 255);
        x.edge(1);
        for (int i = 0; i < 8; i++) {
            x.push(0, 7);
        }
        Make.feedAll(x, "a=1");
        x.row(0, 0, 2);
        x.lane(64, 0);
        due("STEPS so far", x.image(), 8);
        x.run(1);
        due("STEPS so far", x.count(0), 40);
        x.wipe();
        x.row(0, -1, 0);
        x.row(1, 3, 64);
        x.lane(64, 0);
        x.fill(0, 0);
        for (int i = 0; i < 8; i++) {
            x.pop();
        }
        x.edge(0);
        Make.read(x, "a=1;b=1");
        due("back", x.back(), 8);
        due("VARIABLES", x.reduce(2, 0), 255);
        due("VARIABLES", x.reduce(1, 7), 0);
        due("EDGE", x.count(4), 1);
        due("MASKS", x.count(1), 8);
        due("the PROGRAM", x.count(3), 1);
        due("STEPS", x.count(0), 8);
        due("not THE TAPE", x.count(2), 0);
        due("not SHELVES", x.store(0, 0), EMPTY);
        due("not SHELVES", x.store(0, 1), 64);
        due("not REFUSALS", x.refused(0), 2);
    }

    private void back() {
        s.says(38, "All that was kept is so again: STEPS taken.");
        LaneSlices x = new LaneSlices();
        x.image();
        Make.read(x, "a=1");
        x.run(1);
        x.push(0, 0);
        x.edge(1);
        due("of a new object", x.back(), 0);
        for (int what = 0; what < 5; what++) {
            due("count(" + what + ")", x.count(what), 0);
        }
        due("no PROGRAM", x.run(1), STATE);
        due("no MASKS", x.pop(), STATE);
        due("all 0", x.reduce(5, 0), 0);
        x.fill(0, 1);
        due("again and again", x.back(), 0);
        due("again and again", x.reduce(5, 0), 0);
        x.fill(0, 7);
        x.image();
        x.fill(0, 8);
        due("the latest image", x.back(), 8);
        due("the latest image", x.lane(63, 0), 7);
        LaneSlices y = Make.numbered();
        y.push(0, 0);
        y.push(0, 1);
        y.image();
        y.other();
        y.pop();
        y.other();
        y.back();
        due("each MASK", y.active(), 0x8888888888888888L);
        due("each MASK", y.pop(), 32);
        due("each MASK", y.active(), 0xAAAAAAAAAAAAAAAAL);
        s.says(38, "STATE: nothing was.");
        stateless(STATE, LaneSlices::back);
        due("then there is", x.back(), 8);
    }

    private void count() {
        s.says(39, "0 STEPS taken in all (fill(), does(), route(), run()), 1 MASKS, 2 bytes of THE TAPE, 3 S of the "
            + "PROGRAM (0: there is none), 4 EDGE.");
        LaneSlices x = new LaneSlices();
        due("no PROGRAM", x.count(3), 0);
        x.fill(0, 0);
        due("fill", x.count(0), 8);
        x.does(2, 0, 0, 0);
        due("does", x.count(0), 144);
        x.route(0, 0, 0);
        due("route", x.count(0), 152);
        Make.read(x, "a=b;[a:b=c]");
        x.run(2);
        due("run", x.count(0), 172);
        x.lay(0, 0, -1L);
        x.put(0, 0, 0);
        x.row(0, 0, 64);
        x.load(0, 0);
        x.steps(30);
        x.then(30, 0, 0);
        x.changed(30);
        x.settles();
        x.again();
        due("nothing else", x.count(0), 172);
        due("S", x.count(3), 3);
        x.fill(0, 1);
        for (int i = 1; i <= 8; i++) {
            x.push(0, 0);
            due("MASKS", x.count(1), i);
        }
        for (int i = 1; i <= 20; i++) {
            x.feed(0L, 8);
            due("bytes", x.count(2), 8 * i);
        }
        due("S while THE TAPE is full", x.count(3), 3);
        x.edge(1);
        due("EDGE", x.count(4), 1);
        s.says(39, "BAD.");
        s.takes(x, x::count, 0, 4);
        s.refuses(x, BAD, x::count, -1, 5, MIN, MAX);
    }

    private void refused() {
        s.says(40, "How many REFUSALS of a number (0 BAD to 4 PLACE) there were.");
        LaneSlices x = new LaneSlices();
        for (int i = 0; i < 20; i++) {
            x.push(0, 0);
        }
        for (int i = 0; i < 5; i++) {
            x.again();
        }
        for (int i = 0; i < 6; i++) {
            x.judge(0, 3);
        }
        for (int i = 0; i < 7; i++) {
            x.row(0, 0, -1);
        }
        for (int i = 0; i < 8; i++) {
            x.put(0, 0, 256);
        }
        int[] want = {8, 12, 5, 6, 7};
        for (int which = 0; which < 5; which++) {
            due("refused(" + which + ")", x.refused(which), want[which]);
            due("it isn't counted itself", x.refused(which), want[which]);
        }
        s.says(40, "BAD (counted, too): another one.");
        due("below", x.refused(-1), BAD);
        due("above", x.refused(5), BAD);
        due("far below", x.refused(MIN), BAD);
        due("far above", x.refused(MAX), BAD);
        due("counted, too", x.refused(0), 12);
        due("the others", x.refused(1) + x.refused(2) + x.refused(3) + x.refused(4), 30);
    }
}
