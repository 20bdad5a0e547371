import java.util.function.ToLongFunction;

/** The terms, but for programs: refusals, the square, masks, steps, regions, ways, shelves. */
final class TermSentences {
    private static final int BAD = Sentences.BAD;
    private static final int FULL = Sentences.FULL;
    private static final int STATE = Sentences.STATE;
    private static final int EMPTY = Sentences.EMPTY;
    private static final int PLACE = Sentences.PLACE;
    private static final int NONE = Sentences.NONE;

    private final Sentences s;

    TermSentences(Sentences sentences) {
        s = sentences;
    }

    void all() {
        refusals();
        theFirstRefusal();
        refusedActsChangeNothing();
        statelessActsChangeNothing();
        none();
        sets();
        setsOfNumbersThatMayNotBe();
        square();
        variables();
        planes();
        neighbours();
        edgesOfRegionsAndWays();
        masks();
        lanesThatAreNotActive();
        stepsAsTold();
        aroundTwoHundredFiftySix();
        inThought();
        regions();
        ways();
        shelves();
        lowestBits();
        manyCalls();
    }

    private void due(String what, long got, long want) {
        s.due(what, got, want);
    }

    private void refusals() {
        s.says(0, "REFUSALS are answers below -1000: BAD -1001 (a number that may not be), FULL -1002, STATE -1003, "
            + "EMPTY -1004 (a row is missing), PLACE -1005 (a place that there isn't).");
        LaneSlices x = new LaneSlices();
        due("BAD", x.lane(64, 0), -1001);
        for (int i = 0; i < 8; i++) {
            x.push(0, 0);
        }
        due("FULL", x.push(0, 0), -1002);
        due("STATE", x.back(), -1003);
        due("EMPTY", x.store(0, 0), -1004);
        due("PLACE", x.row(0, 0, -1), -1005);
    }

    private void theFirstRefusal() {
        s.says(0, "An act tells the first that its words name, in their order;");
        LaneSlices x = full();
        due("push, BAD ahead of FULL", x.push(8, 0), BAD);
        due("push, BAD ahead of FULL", x.push(0, 8), BAD);
        due("feed, BAD ahead of FULL", x.feed(0L, 0), BAD);
        due("feed, BAD ahead of FULL", x.feed(0L, 9), BAD);
        LaneSlices y = new LaneSlices();
        due("run, BAD ahead of STATE", y.run(0), BAD);
        due("run, BAD ahead of STATE", y.run(31), BAD);
        due("then, BAD ahead of STATE", y.then(31, 0, 0), BAD);
        due("then, BAD ahead of STATE", y.then(0, 64, 0), BAD);
        due("then, BAD ahead of STATE", y.then(0, 0, 8), BAD);
        due("steps, BAD ahead of STATE", y.steps(31), BAD);
        due("first, BAD ahead of STATE", y.first(64, 0, 0), BAD);
        due("first, BAD ahead of STATE", y.first(0, 8, 0), BAD);
        due("first, BAD ahead of STATE", y.first(0, 0, 256), BAD);
        due("row, BAD ahead of PLACE", y.row(4, 0, -1), BAD);
        due("row, BAD ahead of PLACE", y.row(0, 4, -1), BAD);
        due("row, BAD ahead of PLACE", y.row(0, -2, -1), BAD);
        due("mark, BAD ahead of EMPTY and PLACE", y.mark(4, -1, 0L), BAD);
        due("mark, EMPTY ahead of PLACE", y.mark(0, -1, 0L), EMPTY);
        due("mark, EMPTY ahead of PLACE", y.mark(0, 64, 0L), EMPTY);
        due("load, BAD ahead of EMPTY", y.load(8, 0), BAD);
        due("store, BAD ahead of EMPTY", y.store(8, 0), BAD);
        due("judge, BAD ahead of EMPTY", y.judge(8, 0), BAD);
        due("one act, one REFUSAL", Make.refusals(y), 18);
    }

    // ---- refused acts

    /** Eight masks, a tape of 160 bytes, a program, an image, shelves of each kind. */
    private static LaneSlices full() {
        LaneSlices x = Make.with("a=a+1;[#<9:b@na]");
        x.lay(7, 0, 0xFFFFFFFFFFFFFF0FL);
        for (int i = 0; i < 8; i++) {
            x.push(7, 0);
        }
        x.fill(2, 77);
        x.edge(1);
        x.image();
        x.fill(3, 78);
        x.row(1, 0, 5);
        x.mark(1, 4, -9L);
        x.row(2, 1, 0);
        x.row(3, 3, 64);
        x.store(2, 3);
        Make.feedAll(x, "a=#;".repeat(39) + "b=9#");
        return x;
    }

    /** All that can be seen of an object but its refusals; it is worn out then. */
    private static String allOf(LaneSlices x) {
        StringBuilder told = new StringBuilder();
        for (int what = 0; what < 5; what++) {
            told.append(x.count(what)).append(' ');
        }
        for (int v = 0; v < 8; v++) {
            for (int k = 0; k < 8; k++) {
                told.append(x.plane(v, k)).append(' ');
            }
        }
        for (int k = 0; k < 4; k++) {
            told.append(x.at(k, 0)).append(' ').append(x.at(k, 4)).append(' ').append(x.at(k, 63)).append(' ');
            told.append(x.store(7, k)).append(' ').append(x.judge(2, k)).append(' ');
        }
        told.append(x.steps(2)).append(' ').append(x.changed(2)).append(' ').append(x.again()).append(' ');
        while (x.count(1) > 0) {
            told.append(x.active()).append(' ').append(x.pop()).append(' ');
        }
        told.append(x.text()).append(' ').append(x.back()).append(' ').append(x.plane(3, 1)).append(' ');
        return told.append(x.count(1)).append(' ').append(x.count(3)).append(' ').append(x.active()).toString();
    }

    private void changesNothing(boolean isFull, String what, int refusal, ToLongFunction<LaneSlices> act) {
        LaneSlices x = isFull ? full() : new LaneSlices();
        LaneSlices y = isFull ? full() : new LaneSlices();
        due(what, act.applyAsLong(x), refusal);
        for (int which = 0; which < 5; which++) {
            due(what + ", refused(" + which + ")", x.refused(which), BAD - which == refusal ? 1 : 0);
        }
        String after = allOf(x);
        String before = allOf(y);
        s.holds(what + " changes nothing: " + after + " was " + before, after.equals(before));
    }

    private void refused(String what, int refusal, ToLongFunction<LaneSlices> act) {
        changesNothing(true, what, refusal, act);
    }

    private void refusedActsChangeNothing() {
        s.says(0, "it changes nothing then but what refused() tells.");
        refused("lane", BAD, x -> x.lane(64, 0));
        refused("put", BAD, x -> x.put(64, 0, 1));
        refused("put", BAD, x -> x.put(0, 8, 1));
        refused("put", BAD, x -> x.put(0, 0, 256));
        refused("lay", BAD, x -> x.lay(8, 0, -1L));
        refused("lay", BAD, x -> x.lay(0, 8, -1L));
        refused("fill", BAD, x -> x.fill(8, 1));
        refused("fill", BAD, x -> x.fill(0, 256));
        refused("does", BAD, x -> x.does(8, 0, 2, 2));
        refused("does", BAD, x -> x.does(0, 8, 2, 2));
        refused("does", BAD, x -> x.does(0, 0, 8, 2));
        refused("does", BAD, x -> x.does(0, 0, 2, 8));
        refused("route", BAD, x -> x.route(8, 2, 0));
        refused("route", BAD, x -> x.route(0, 8, 0));
        refused("route", BAD, x -> x.route(0, 2, 4));
        refused("edge", BAD, x -> x.edge(2));
        refused("push", BAD, x -> x.push(8, 0));
        refused("push", FULL, x -> x.push(2, 0));
        refused("reduce", BAD, x -> x.reduce(7, 0));
        refused("part", BAD, x -> x.part(0, 7, 0));
        refused("rank", BAD, x -> x.rank(64, 0));
        refused("regions", BAD, x -> x.regions(8));
        refused("way", BAD, x -> x.way(64, 0, 0));
        refused("feed", BAD, x -> x.feed(0L, 9));
        refused("feed", FULL, x -> x.feed(0L, 1));
        refused("run", BAD, x -> x.run(31));
        refused("then", BAD, x -> x.then(31, 0, 0));
        refused("steps", BAD, x -> x.steps(31));
        refused("first", BAD, x -> x.first(64, 0, 0));
        refused("row", BAD, x -> x.row(1, 0, 65));
        refused("row", BAD, x -> x.row(1, 4, 5));
        refused("row", PLACE, x -> x.row(1, 0, -1));
        refused("mark", BAD, x -> x.mark(4, 0, 1L));
        refused("mark", EMPTY, x -> x.mark(0, 0, 1L));
        refused("mark", PLACE, x -> x.mark(1, 5, 1L));
        refused("load", BAD, x -> x.load(8, 3));
        refused("load", EMPTY, x -> x.load(2, 0));
        refused("store", BAD, x -> x.store(8, 3));
        refused("store", EMPTY, x -> x.store(2, 0));
        refused("judge", BAD, x -> x.judge(8, 3));
        refused("judge", EMPTY, x -> x.judge(2, 0));
        refused("count", BAD, x -> x.count(5));
        refused("refused", BAD, x -> x.refused(5));
    }

    private void statelessActsChangeNothing() {
        s.says(0, "it changes nothing then but what refused() tells.");
        changesNothing(false, "other", STATE, LaneSlices::other);
        changesNothing(false, "pop", STATE, LaneSlices::pop);
        changesNothing(false, "run", STATE, x -> x.run(1));
        changesNothing(false, "then", STATE, x -> x.then(0, 0, 0));
        changesNothing(false, "steps", STATE, x -> x.steps(0));
        changesNothing(false, "settles", STATE, LaneSlices::settles);
        changesNothing(false, "first", STATE, x -> x.first(0, 0, 0));
        changesNothing(false, "again", STATE, LaneSlices::again);
        changesNothing(false, "back", STATE, LaneSlices::back);
    }

    // ---- answers

    private void none() {
        s.says(0, "NONE is -1 (no REFUSAL).");
        LaneSlices x = Make.with("a=a+1");
        due("NONE", LaneSlices.NONE, -1);
        due("way", x.way(0, 1, 1), -1);
        due("settles", x.settles(), -1);
        due("first", x.first(0, 0, 200), -1);
        due("again", x.again(), -1);
        x.row(0, 0, 0);
        due("judge", x.judge(0, 0), -1);
        x.push(7, 7);
        due("reduce 1", x.reduce(1, 0), -1);
        due("reduce 2", x.reduce(2, 0), -1);
        due("reduce 6", x.reduce(6, 0), -1);
        due("no REFUSAL", Make.refusals(x), 0);
    }

    private void sets() {
        s.says(0, "Sets of LANES are longs: bit k for LANE k;");
        for (int lane : new int[] {0, 1, 31, 32, 62, 63}) {
            long set = 1L << lane;
            LaneSlices x = Make.with("b=a+b");
            x.put(lane, 0, 255);
            due("plane", x.plane(0, 7), set);
            due("alike", x.alike(lane), set);
            due("region", x.region(lane, 0), set);
            due("changed", x.changed(1), set);
            x.push(0, 0);
            due("active", x.active(), set);
            due("lay", x.lay(5, 5, -1L), 1);
            due("lay", x.lane(lane, 5), 32);
        }
    }

    private void setsOfNumbersThatMayNotBe() {
        s.says(0, "an act that answers one refuses nothing: it is 0 for numbers that may not be.");
        LaneSlices x = Make.with("a=a+1");
        x.fill(0, 255);
        x.fill(7, 255);
        for (int bad : Sentences.NO_VARIABLES) {
            due("plane(" + bad + ", 0)", x.plane(bad, 0), 0L);
            due("plane(0, " + bad + ")", x.plane(0, bad), 0L);
            due("region(0, " + bad + ")", x.region(0, bad), 0L);
        }
        for (int bad : Sentences.NO_LANES) {
            due("alike(" + bad + ")", x.alike(bad), 0L);
            due("region(" + bad + ", 0)", x.region(bad, 0), 0L);
        }
        for (int bad : Sentences.NO_TIMES) {
            due("changed(" + bad + ")", x.changed(bad), 0L);
        }
        due("the last numbers that may be", x.plane(0, 7), -1L);
        due("the last numbers that may be", x.plane(7, 7), -1L);
        due("the last numbers that may be", x.alike(63), -1L);
        due("the last numbers that may be", x.region(63, 7), -1L);
        due("the last numbers that may be", x.changed(30), -1L);
        due("nothing is refused", Make.refusals(x), 0);
    }

    // ---- the square

    private void square() {
        s.says(0, "LANES 0 to 63 stand in a square: LANE 8 y and x, x and y 0 to 7.");
        LaneSlices x = Make.with("a=#");
        x.run(1);
        s.takes(x, n -> x.lane(n, 0), 0, 63);
        s.refuses(x, BAD, n -> x.lane(n, 0), Sentences.NO_LANES);
        due("the first", x.lane(0, 0), 0);
        due("the last", x.lane(63, 0), 63);
        x.route(1, 0, 1);
        x.route(2, 0, 2);
        for (int y = 0; y < 8; y++) {
            due("x ends with 7", x.lane(8 * y + 7, 1), 0);
            due("x goes on till 7", x.lane(8 * y + 6, 1), 8 * y + 7);
            due("y ends with 7", x.lane(56 + y, 2), 0);
            due("y goes on till 7", x.lane(48 + y, 2), 56 + y);
        }
    }

    private void variables() {
        s.says(0, "Each has VARIABLES a to h (0 to 7): numbers 0 to 255 (0 at first).");
        LaneSlices x = new LaneSlices();
        for (int v = 0; v < 8; v++) {
            due("0 at first", x.reduce(3, v), 0);
        }
        s.takes(x, n -> x.lane(0, n), 0, 7);
        s.refuses(x, BAD, n -> x.lane(0, n), Sentences.NO_VARIABLES);
        s.takes(x, n -> x.put(63, 7, n), 0, 255);
        due("the greatest", x.lane(63, 7), 255);
        s.refuses(x, BAD, n -> x.put(63, 7, n), Sentences.NO_NUMBERS);
        s.good("a=1", 1);
        s.good("h=h", 1);
        s.fault((char) ('a' - 1) + "=1", 0);
        s.fault("i=1", 0);
        s.fault("a=i", 2);
        LaneSlices y = Make.with("a=1;h=2");
        y.run(1);
        due("a is 0", y.lane(0, 0), 1);
        due("h is 7", y.lane(0, 7), 2);
    }

    private void planes() {
        s.says(0, "PLANE k (0 to 7) of a VARIABLE: the set of LANES in whose number bit k is 1.");
        for (int k = 0; k < 8; k++) {
            LaneSlices x = new LaneSlices();
            x.put(63, 7, 1 << k);
            for (int other = 0; other < 8; other++) {
                due("bit " + k + ", PLANE " + other, x.plane(7, other), other == k ? 1L << 63 : 0L);
            }
        }
        LaneSlices x = new LaneSlices();
        x.fill(0, 255);
        for (int bad : Sentences.NO_BITS) {
            due("PLANE " + bad, x.plane(0, bad), 0L);
        }
        s.refuses(x, BAD, n -> x.lay(0, n, 0L), Sentences.NO_BITS);
        s.refuses(x, BAD, n -> x.push(0, n), Sentences.NO_BITS);
    }

    /** The lane on a way from a lane, or NONE. */
    private static int beside(int lane, int way, int edge) {
        int x = lane % 8 + (way == 1 ? 1 : way == 3 ? -1 : 0);
        int y = lane / 8 + (way == 2 ? 1 : way == 0 ? -1 : 0);
        boolean isBeyond = x < 0 || x > 7 || y < 0 || y > 7;
        return isBeyond && edge == 0 ? NONE : (y + 8) % 8 * 8 + (x + 8) % 8;
    }

    private void neighbours() {
        s.says(0, "NORTH of a LANE is the one with y less by 1, SOUTH with y more, WEST with x less, EAST with x more "
            + "(ways 0 to 3: NORTH, EAST, SOUTH, WEST); beyond an edge there is none (EDGE 0, at first) or the LANE "
            + "at the other end of its row or column (EDGE 1).");
        due("NORTH of the first, EDGE 1", beside(0, 0, 1), 56);
        due("WEST of the first, EDGE 1", beside(0, 3, 1), 7);
        for (int edge = 0; edge < 2; edge++) {
            for (int way = 0; way < 4; way++) {
                LaneSlices x = Make.with("b@" + "nesw".charAt(way) + "a");
                for (int lane = 0; lane < 64; lane++) {
                    x.put(lane, 0, 100 + lane);
                    x.put(lane, 1, 9);
                }
                due("EDGE 0, at first", x.count(4), 0);
                x.edge(edge);
                x.route(2, 0, way);
                x.run(1);
                for (int lane = 0; lane < 64; lane++) {
                    int from = beside(lane, way, edge);
                    String what = "way " + way + " from LANE " + lane + ", EDGE " + edge;
                    due(what + ", route", x.lane(lane, 2), from == NONE ? 0 : 100 + from);
                    due(what + ", @", x.lane(lane, 1), from == NONE ? 0 : 100 + from);
                }
            }
        }
        LaneSlices x = new LaneSlices();
        s.takes(x, n -> x.route(0, 0, n), 0, 3);
        s.refuses(x, BAD, n -> x.route(0, 0, n), -1, 4, Sentences.MIN, Sentences.MAX);
    }

    private void edgesOfRegionsAndWays() {
        s.says(0, "beyond an edge there is none (EDGE 0, at first) or the LANE at the other end of its row or column "
            + "(EDGE 1).");
        int[][] ends = {{0, 7}, {56, 63}, {24, 31}, {0, 56}, {7, 63}, {3, 59}};
        for (int[] pair : ends) {
            LaneSlices x = new LaneSlices();
            x.put(pair[0], 0, 5);
            x.put(pair[1], 0, 5);
            due("EDGE 0, region", x.region(pair[0], 0), 1L << pair[0]);
            due("EDGE 0, way", x.way(pair[0], pair[1], 0), NONE);
            x.edge(1);
            due("EDGE 1, region", x.region(pair[0], 0), 1L << pair[0] | 1L << pair[1]);
            due("EDGE 1, way", x.way(pair[0], pair[1], 0), 1);
            due("EDGE 1, way", x.way(pair[1], pair[0], 0), 1);
        }
        LaneSlices x = new LaneSlices();
        x.put(7, 0, 5);
        x.put(8, 0, 5);
        x.edge(1);
        due("of its own row", x.way(7, 8, 0), NONE);
        due("of its own row", x.region(7, 0), 1L << 7);
    }

    // ---- masks, steps

    private void masks() {
        s.says(0, "MASKS: at most 8, one on top of another; a LANE is ACTIVE if it is in all of them "
            + "(without MASKS: all are).");
        LaneSlices x = new LaneSlices();
        due("without MASKS", x.active(), -1L);
        for (int i = 0; i < 8; i++) {
            x.lay(i, 0, ~(1L << 8 * i));
        }
        for (int i = 0; i < 8; i++) {
            due("MASK " + i, x.push(i, 0), 63 - i);
        }
        due("in all of them", x.active(), ~0x0101010101010101L);
        due("a ninth", x.push(0, 0), FULL);
        due("eight", x.count(1), 8);
        for (int i = 7; i >= 0; i--) {
            due("MASK " + i + " off", x.pop(), 64 - i);
        }
        due("without MASKS", x.active(), -1L);
        due("again", x.push(0, 0), 63);
    }

    private static LaneSlices masked(long set) {
        LaneSlices x = Make.with("a=9;b@na;[a:c=9|d=9];{e<5:e=e+1};g=a*a");
        for (int v = 0; v < 7; v++) {
            x.fill(v, 3 + v);
        }
        x.put(0, 4, 0);
        x.row(0, 0, 64);
        Make.only(x, set);
        return x;
    }

    private void lanesThatAreNotActive() {
        s.says(0, "Where VARIABLES are told to become something, LANES that are not ACTIVE stay as they are.");
        for (long set : new long[] {0L, 1L, 1L << 63, 0x00FF00FF00FF00FFL}) {
            LaneSlices before = masked(set);
            LaneSlices x = masked(set);
            x.fill(0, 200);
            for (int op = 0; op < 8; op++) {
                x.does(op, op % 7, 2, 3);
            }
            for (int way = 0; way < 4; way++) {
                x.route(way, 6, way);
            }
            x.lay(5, 2, 0x123456789ABCDEFL);
            x.load(6, 0);
            x.run(2);
            for (int v = 0; v < 7; v++) {
                for (int k = 0; k < 8; k++) {
                    due("VARIABLE " + v + ", PLANE " + k, x.plane(v, k) & ~set, before.plane(v, k) & ~set);
                }
            }
            due("those that are ACTIVE", x.reduce(5, 0), Long.bitCount(set));
            due("those that are ACTIVE", x.reduce(0, 0), 9 * Long.bitCount(set));
        }
    }

    private void stepsAsTold() {
        s.says(0, "STEPS are counted: to copy, & (both bits), min, max: 8 (min, max: 17); + and - (modulo 256): 16; "
            + "* (modulo 256): 136; < and = (1 or 0): 9; a number told: 8; from a neighbour: 8.");
        LaneSlices x = new LaneSlices();
        int[] steps = {16, 16, 136, 8, 9, 9, 17, 17};
        int all = 0;
        for (int op = 0; op < 8; op++) {
            due("op " + op, x.does(op, 0, 1, 2), steps[op]);
            all += steps[op];
            due("in all", x.count(0), all);
        }
        due("a number told", x.fill(0, 0), 8);
        due("from a neighbour", x.route(0, 0, 0), 8);
        due("to copy", Make.with("a=b").run(1), 8);
        due("in all", x.count(0), all + 16);
    }

    private int made(int op, int a, int b) {
        LaneSlices x = new LaneSlices();
        x.put(63, 0, a);
        x.put(63, 1, b);
        x.does(op, 2, 0, 1);
        return x.lane(63, 2);
    }

    private void aroundTwoHundredFiftySix() {
        s.says(0, "+ and - (modulo 256): 16; * (modulo 256): 136; < and = (1 or 0): 9;");
        int[][] rows = {
            {0, 255, 0, 255}, {0, 255, 1, 0}, {0, 255, 255, 254}, {0, 128, 128, 0}, {0, 127, 1, 128},
            {1, 0, 0, 0}, {1, 0, 1, 255}, {1, 0, 255, 1}, {1, 255, 255, 0}, {1, 127, 128, 255}, {1, 128, 1, 127},
            {2, 0, 255, 0}, {2, 1, 255, 255}, {2, 16, 16, 0}, {2, 15, 17, 255}, {2, 255, 255, 1}, {2, 128, 2, 0},
            {2, 2, 128, 0}, {3, 255, 0, 0}, {3, 255, 255, 255}, {3, 170, 85, 0},
            {4, 0, 0, 0}, {4, 0, 1, 1}, {4, 1, 0, 0}, {4, 254, 255, 1}, {4, 255, 255, 0}, {4, 255, 0, 0},
            {4, 0, 255, 1}, {4, 127, 128, 1}, {4, 128, 127, 0},
            {5, 0, 0, 1}, {5, 255, 255, 1}, {5, 0, 128, 0}, {5, 1, 0, 0}, {5, 255, 254, 0},
            {6, 0, 255, 0}, {6, 255, 0, 0}, {6, 255, 255, 255}, {6, 127, 128, 127}, {6, 128, 127, 127},
            {7, 0, 255, 255}, {7, 255, 0, 255}, {7, 0, 0, 0}, {7, 127, 128, 128}, {7, 128, 127, 128}};
        for (int[] row : rows) {
            due("op " + row[0] + " of " + row[1] + " and " + row[2], made(row[0], row[1], row[2]), row[3]);
        }
        String[] signs = {"+", "-", "*", "&", "<", "="};
        for (int[] row : rows) {
            if (row[0] < signs.length) {
                String text = "a=" + row[1] + signs[row[0]] + row[2];
                due(text, Make.with(text).then(1, 0, 0), row[3]);
            }
        }
    }

    // ---- thought, regions, ways

    private void inThought() {
        s.says(0, "IN THOUGHT, from how all is: the PROGRAM gone through n times (0 to 30).");
        LaneSlices x = Make.with("a=a+1;b@na");
        x.run(3);
        int taken = x.count(0);
        due("no times", x.then(0, 9, 0), 3);
        due("no times", x.steps(0), 0);
        due("no times", x.changed(0), 0L);
        due("30 times", x.then(30, 9, 0), 33);
        due("30 times", x.steps(30), 30 * 40);
        due("30 times", x.changed(30), -1L);
        s.refuses(x, BAD, n -> x.then(n, 0, 0), Sentences.NO_TIMES);
        s.refuses(x, BAD, x::steps, Sentences.NO_TIMES);
        x.settles();
        x.first(0, 0, 77);
        x.again();
        due("all is as it was", x.lane(9, 0), 3);
        due("all is as it was", x.lane(9, 1), 3);
        due("no STEPS are taken", x.count(0), taken);
        LaneSlices y = Make.with("[a<9:a=a+1|a=0]");
        for (int i = 0; i < 2; i++) {
            // Another thought is none of theirs.
            y.then(7 + i, 0, 0);
            due("from how all is, then", y.then(1, 0, 0), 1);
            due("from how all is, steps", y.steps(9), 9 * 51);
            due("from how all is, changed", y.changed(10), 0L);
            due("from how all is, first", y.first(0, 0, 3), 3);
            due("from how all is, again", y.again(), 10);
        }
        LaneSlices z = Make.with("[a<9:a=a+1]");
        for (int i = 0; i < 2; i++) {
            z.then(7 + i, 0, 0);
            due("from how all is, settles", z.settles(), 9);
        }
        z.run(4);
        due("from how all is by now, settles", z.settles(), 5);
        due("from how all is by now, first", z.first(0, 0, 3), NONE);
        due("from how all is by now, again", z.again(), NONE);
    }

    private void regions() {
        s.says(0, "A REGION of a LANE by a VARIABLE: LANES with the same number of it that can be come to from it, "
            + "NORTH, EAST, SOUTH, WEST, through such alone.");
        LaneSlices x = new LaneSlices();
        due("of the number 0, all", x.region(0, 0), -1L);
        x.put(27, 0, 128);
        due("one LANE", x.region(27, 0), 1L << 27);
        due("around it", x.region(0, 0), ~(1L << 27));
        x.put(26, 0, 129);
        due("the same in all bits", x.region(27, 0), 1L << 27);
        x.put(18, 0, 128);
        due("not slantwise", x.region(27, 0), 1L << 27);
        x.put(19, 0, 128);
        due("NORTH and WEST", x.region(27, 0), 1L << 27 | 1L << 19 | 1L << 18);
        LaneSlices wall = new LaneSlices();
        wall.lay(0, 0, 0xFFL << 24);
        due("not through others", wall.region(0, 0), 0xFFFFFFL);
        LaneSlices winding = new LaneSlices();
        long path = 0x80FF01FF80FF01FFL;
        winding.lay(0, 7, path);
        due("winding through all rows", winding.region(7, 0), path);
    }

    private void ways() {
        s.says(0, "A WAY from a LANE to another one: moves through LANES (both ends, too) whose number isn't 0.");
        LaneSlices x = new LaneSlices();
        due("all are 0", x.way(0, 1, 0), NONE);
        x.put(0, 0, 1);
        due("its end is 0", x.way(0, 1, 0), NONE);
        due("its beginning is 0", x.way(1, 0, 0), NONE);
        x.put(1, 0, 128);
        due("another number that isn't 0", x.way(0, 1, 0), 1);
        x.put(3, 0, 255);
        due("a 0 between", x.way(0, 3, 0), NONE);
        x.put(2, 0, 2);
        due("none between", x.way(0, 3, 0), 3);
        due("to itself, where it is 0", x.way(9, 9, 0), NONE);
        due("to itself, where it isn't", x.way(0, 0, 0), 0);
    }

    // ---- shelves

    private void shelves() {
        s.says(0, "SHELVES 0 to 3 are rows of a SORT (0 bytes, 1 shorts, 2 ints, 3 longs) of 0 to 64 numbers, "
            + "or missing (as at first).");
        LaneSlices x = new LaneSlices();
        for (int k = 0; k < 4; k++) {
            due("missing at first", x.store(0, k), EMPTY);
            due("missing at first", x.mark(k, 0, 1L), EMPTY);
        }
        s.takes(x, n -> x.row(n, 0, 1), 0, 3);
        s.refuses(x, BAD, n -> x.row(n, 0, 1), Sentences.NO_SHELVES);
        s.takes(x, n -> x.row(0, n, 1), 0, 3);
        s.refuses(x, BAD, n -> x.row(0, n, 1), -2, 4, Sentences.MIN, Sentences.MAX);
        s.takes(x, n -> x.row(0, 0, n), 0, 64);
        s.refuses(x, BAD, n -> x.row(0, 0, n), 65, Sentences.MAX);
        due("64 numbers", x.store(0, 0), 64);
        x.row(0, 0, 0);
        due("no numbers, but a row", x.store(0, 0), 0);
        due("no numbers, but a row", x.mark(0, 0, 1L), PLACE);
    }

    private void lowestBits() {
        s.says(0, "What is put in keeps its lowest bits; bytes are told below 0, if bit 7 is 1, and so on.");
        for (int sort = 0; sort < 4; sort++) {
            LaneSlices x = new LaneSlices();
            int bits = 8 << sort;
            long high = 1L << bits - 1;
            x.row(0, sort, 1);
            long[][] rows = {{high - 1, high - 1}, {high, -high}, {-high, -high}, {-high - 1, high - 1},
                {high | high - 1, -1L}, {-1L, -1L}, {0L, 0L}};
            for (long[] row : rows) {
                x.mark(0, 0, row[0]);
                due("SORT " + sort + ", " + row[0], x.at(0, 0), row[1]);
            }
            if (bits < 64) {
                x.mark(0, 0, 1L << bits);
                due("SORT " + sort + ", a bit too high", x.at(0, 0), 0L);
                x.mark(0, 0, (1L << bits) + 5L);
                due("SORT " + sort + ", and the lowest", x.at(0, 0), 5L);
            }
            x.put(0, 0, 255);
            x.store(0, 0);
            due("SORT " + sort + ", store", x.at(0, 0), sort == 0 ? -1L : 255L);
        }
    }

    private void manyCalls() {
        s.says(0, "An object is used for at most 512 calls after it has been made; what later calls answer is free.");
        LaneSlices x = new LaneSlices();
        for (int i = 0; i < 511; i++) {
            x.fill(0, i & 255);
        }
        due("the 512th call", x.count(0), 511 * 8);
        LaneSlices y = new LaneSlices();
        for (int i = 0; i < 511; i++) {
            y.pop();
        }
        due("the 512th call", y.refused(2), 511);
        LaneSlices z = new LaneSlices();
        for (int i = 0; i < 255; i++) {
            z.feed(0x233D61L, 3);
            z.text();
        }
        z.run(30);
        due("the 512th call", z.lane(63, 0), 63);
    }
}
