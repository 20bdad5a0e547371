/** Each promise by itself: ordinary inputs, the edges that the document names, wrong inputs. */
public final class PromiseTest {
    private static final int BAD = -1001;
    private static final int FULL = -1002;
    private static final int STATE = -1003;
    private static final int EMPTY = -1004;
    private static final int PLACE = -1005;
    private static final int NONE = -1;
    private static final int MIN = Integer.MIN_VALUE;
    private static final int MAX = Integer.MAX_VALUE;
    private static final int[] NO_LANES = {-1, 64, MIN, MAX};
    private static final int[] NO_VARIABLES = {-1, 8, MIN, MAX};

    private static Checks checks;

    public static void main(String[] args) {
        checks = new Checks("PromiseTest");
        newObject();
        lane();
        put();
        plane();
        lay();
        fill();
        does();
        doesAllPairs();
        route();
        edge();
        push();
        other();
        pop();
        active();
        reduce();
        part();
        rank();
        alike();
        region();
        regions();
        way();
        feed();
        wipe();
        text();
        textFaults();
        textLimits();
        run();
        runChoices();
        runLoops();
        runOrders();
        then();
        steps();
        changed();
        settles();
        first();
        again();
        row();
        mark();
        at();
        load();
        store();
        judge();
        image();
        back();
        count();
        refused();
        refusalsChangeNothing();
        checks.end();
    }

    private static void due(String what, long got, long want) {
        checks.due(what, got, want);
    }

    // ---- helpers

    private static void fault(String text, int place) {
        LaneSlices x = new LaneSlices();
        due("text() of " + text, Make.read(x, text), -10 - place);
        due("no PROGRAM behind " + text, x.count(3), 0);
        due("no REFUSAL behind " + text, x.refused(0) + x.refused(1) + x.refused(2) + x.refused(3) + x.refused(4), 0);
    }

    private static void good(String text, int deeds) {
        LaneSlices x = new LaneSlices();
        due("text() of " + text, Make.read(x, text), deeds);
        due("S of " + text, x.count(3), deeds);
    }

    // ---- promises

    private static void newObject() {
        LaneSlices x = new LaneSlices();
        for (int v = 0; v < 8; v++) {
            for (int lane = 0; lane < 64; lane++) {
                due("new lane", x.lane(lane, v), 0);
            }
        }
        due("new active()", x.active(), -1L);
        for (int what = 0; what < 5; what++) {
            due("new count(" + what + ")", x.count(what), 0);
            due("new refused(" + what + ")", x.refused(what), 0);
        }
        for (int k = 0; k < 4; k++) {
            due("new shelf", x.judge(0, k), EMPTY);
        }
        due("new back()", x.back(), STATE);
        due("new run(1)", x.run(1), STATE);
        due("NONE", LaneSlices.NONE, -1);
    }

    private static void lane() {
        LaneSlices x = Make.numbered();
        for (int lane = 0; lane < 64; lane++) {
            due("lane " + lane, x.lane(lane, 0), lane);
            due("lane " + lane, x.lane(lane, 1), 0);
        }
        for (int bad : NO_LANES) {
            due("lane(" + bad + ", 0)", x.lane(bad, 0), BAD);
        }
        for (int bad : NO_VARIABLES) {
            due("lane(0, " + bad + ")", x.lane(0, bad), BAD);
        }
        due("BAD of lane()", x.refused(0), 8);
    }

    private static void put() {
        LaneSlices x = new LaneSlices();
        due("put", x.put(63, 7, 255), 0);
        due("put", x.put(63, 7, 170), 255);
        due("put", x.put(63, 7, 0), 170);
        due("put", x.put(62, 7, 9), 0);
        due("put changes one lane", x.lane(63, 7), 0);
        x.push(0, 0);
        due("nothing is active", x.active(), 0L);
        due("put, not active", x.put(5, 1, 77), 0);
        due("put, not active", x.lane(5, 1), 77);
        for (int bad : NO_LANES) {
            due("put(" + bad + ", 0, 0)", x.put(bad, 0, 0), BAD);
        }
        for (int bad : NO_VARIABLES) {
            due("put(0, " + bad + ", 0)", x.put(0, bad, 0), BAD);
        }
        for (int bad : new int[] {-1, 256, MIN, MAX}) {
            due("put(5, 1, " + bad + ")", x.put(5, 1, bad), BAD);
        }
        due("put that is refused", x.lane(5, 1), 77);
        due("put takes no STEPS", x.count(0), 0);
    }

    private static void plane() {
        LaneSlices x = Make.numbered();
        long[] planes = {0xAAAAAAAAAAAAAAAAL, 0xCCCCCCCCCCCCCCCCL, 0xF0F0F0F0F0F0F0F0L, 0xFF00FF00FF00FF00L,
            0xFFFF0000FFFF0000L, 0xFFFFFFFF00000000L, 0L, 0L};
        for (int k = 0; k < 8; k++) {
            due("plane " + k, x.plane(0, k), planes[k]);
        }
        x.put(63, 3, 128);
        due("plane 7", x.plane(3, 7), Long.MIN_VALUE);
        for (int bad : NO_VARIABLES) {
            due("plane(" + bad + ", 0)", x.plane(bad, 0), 0L);
            due("plane(0, " + bad + ")", x.plane(0, bad), 0L);
        }
        due("plane refuses nothing", x.refused(0), 0);
    }

    private static void lay() {
        LaneSlices x = new LaneSlices();
        due("lay", x.lay(2, 7, -1L), 64);
        due("lay", x.lane(13, 2), 128);
        due("lay", x.lay(2, 0, 0xF0L), 4);
        due("lay", x.lane(4, 2), 129);
        due("lay", x.lane(3, 2), 128);
        due("lay", x.lay(2, 7, 0L), 0);
        x.lay(1, 0, 0xFFL);
        x.push(1, 0);
        due("lay, masked", x.lay(2, 0, 0x3L), 2);
        due("lay, masked", x.lay(3, 4, -1L), 8);
        x.other();
        due("the whole plane is counted", x.lay(3, 4, 1L << 63 | 1L), 9);
        due("lay, masked", x.plane(3, 4), 0xFFL | 1L << 63);
        due("lay", x.lay(-1, 0, 0L), BAD);
        due("lay", x.lay(8, 0, 0L), BAD);
        due("lay", x.lay(0, -1, 0L), BAD);
        due("lay", x.lay(0, 8, 0L), BAD);
        due("lay takes no STEPS", x.count(0), 0);
    }

    private static void fill() {
        LaneSlices x = new LaneSlices();
        due("fill", x.fill(4, 255), 8);
        due("fill", x.reduce(4, 4), 255);
        due("fill", x.fill(4, 0x5A), 8);
        due("fill", x.reduce(2, 4), 0x5A);
        due("fill", x.reduce(1, 4), 0x5A);
        Make.only(x, 0x0FL);
        due("fill, masked", x.fill(4, 3), 8);
        due("fill, masked", x.lane(3, 4), 3);
        due("fill, masked", x.lane(4, 4), 0x5A);
        x.push(0, 0);
        due("nothing is active", x.active(), 0L);
        due("fill takes its STEPS without lanes", x.fill(4, 9), 8);
        due("fill without lanes", x.lane(3, 4), 3);
        due("STEPS of fill", x.count(0), 32);
        due("fill", x.fill(-1, 0), BAD);
        due("fill", x.fill(8, 0), BAD);
        due("fill", x.fill(0, -1), BAD);
        due("fill", x.fill(0, 256), BAD);
        due("STEPS of fill", x.count(0), 32);
    }

    private static int plainly(int op, int a, int b) {
        int[] all = {a + b & 255, a - b & 255, a * b & 255, a & b, a < b ? 1 : 0, a == b ? 1 : 0,
            Math.min(a, b), Math.max(a, b)};
        return all[op];
    }

    private static void does() {
        int[] steps = {16, 16, 136, 8, 9, 9, 17, 17};
        LaneSlices x = Make.numbered();
        int taken = 0;
        for (int op = 0; op < 8; op++) {
            x.lay(1, 6, 0xFFFF00000000FFFFL);
            due("does " + op, x.does(op, 2, 0, 1), steps[op]);
            due("does " + op + ", d is a", x.does(op, 0, 0, 1), steps[op]);
            due("does " + op + ", d is b", x.does(op, 1, 2, 1), steps[op]);
            due("does " + op + ", all one", x.does(op, 3, 3, 3), steps[op]);
            taken += 4 * steps[op];
        }
        due("STEPS of does", x.count(0), taken);
        x.put(9, 0, 200);
        x.put(10, 0, 200);
        x.put(9, 1, 100);
        x.put(10, 1, 100);
        x.lay(7, 1, 1L << 9);
        x.push(7, 1);
        int before = x.lane(10, 2);
        x.does(0, 2, 0, 1);
        due("does, active", x.lane(9, 2), 44);
        due("does, not active", x.lane(10, 2), before);
        x.push(6, 7);
        due("does takes its STEPS without lanes", x.does(2, 2, 0, 1), 136);
        due("does without lanes", x.lane(9, 2), 44);
        for (int bad : NO_VARIABLES) {
            due("does(" + bad + ", ..)", x.does(bad, 0, 0, 0), BAD);
            due("does(0, " + bad + ", ..)", x.does(0, bad, 0, 0), BAD);
            due("does(0, 0, " + bad + ", 0)", x.does(0, 0, bad, 0), BAD);
            due("does(0, 0, 0, " + bad + ")", x.does(0, 0, 0, bad), BAD);
        }
    }

    /** Every op on every two numbers, and with each choice of places. */
    private static void doesAllPairs() {
        for (int base = 0; base < 256; base += 64) {
            LaneSlices x = new LaneSlices();
            for (int lane = 0; lane < 64; lane++) {
                x.put(lane, 0, base + lane);
            }
            for (int b = 0; b < 256; b++) {
                x.fill(1, b);
                for (int op = 0; op < 8; op++) {
                    x.does(op, 2, 0, 1);
                    x.does(op, 3, 1, 0);
                    int at = (b * 7 + op * 11) & 63;
                    int a = base + at;
                    due(a + " op " + op + " " + b, x.lane(at, 2), plainly(op, a, b));
                    due(b + " op " + op + " " + a, x.lane(at, 3), plainly(op, b, a));
                    long wrong = 0;
                    for (int lane = 0; lane < 64; lane++) {
                        wrong += x.lane(lane, 2) == plainly(op, base + lane, b) ? 0 : 1;
                    }
                    due("op " + op + " with " + b, wrong, 0);
                }
            }
        }
        for (int op = 0; op < 8; op++) {
            LaneSlices x = Make.numbered();
            x.does(0, 1, 0, 0);
            x.does(op, 0, 0, 1);
            x.does(op, 1, 0, 1);
            x.does(op, 0, 0, 0);
            for (int lane = 0; lane < 64; lane++) {
                int a = plainly(op, lane, 2 * lane);
                due("d is b, " + op, x.lane(lane, 1), plainly(op, a, 2 * lane));
                due("d is a and b, " + op, x.lane(lane, 0), plainly(op, a, a));
            }
        }
    }

    private static void route() {
        int[] dx = {0, 1, 0, -1};
        int[] dy = {-1, 0, 1, 0};
        for (int edge = 0; edge < 2; edge++) {
            for (int way = 0; way < 4; way++) {
                LaneSlices x = new LaneSlices();
                for (int lane = 0; lane < 64; lane++) {
                    x.put(lane, 0, lane + 100);
                }
                x.edge(edge);
                due("route", x.route(1, 0, way), 8);
                due("route to itself", x.route(0, 0, way), 8);
                due("STEPS of route", x.count(0), 16);
                for (int lane = 0; lane < 64; lane++) {
                    int nx = lane % 8 + dx[way];
                    int ny = lane / 8 + dy[way];
                    boolean beyond = nx < 0 || nx > 7 || ny < 0 || ny > 7;
                    int want = beyond && edge == 0 ? 0 : (ny + 8) % 8 * 8 + (nx + 8) % 8 + 100;
                    due("route " + way + ", edge " + edge + ", lane " + lane, x.lane(lane, 1), want);
                    due("route to itself", x.lane(lane, 0), want);
                }
            }
        }
        LaneSlices x = Make.numbered();
        Make.only(x, 1L << 9);
        x.route(1, 0, 0);
        due("from a LANE that isn't active", x.lane(9, 1), 1);
        due("route, not active", x.lane(10, 1), 0);
        x.push(6, 0);
        due("route takes its STEPS without lanes", x.route(1, 0, 2), 8);
        due("route without lanes", x.lane(9, 1), 1);
        due("route", x.route(8, 0, 0), BAD);
        due("route", x.route(-1, 0, 0), BAD);
        due("route", x.route(0, 8, 0), BAD);
        due("route", x.route(0, -1, 0), BAD);
        due("route", x.route(0, 0, 4), BAD);
        due("route", x.route(0, 0, -1), BAD);
    }

    private static void edge() {
        LaneSlices x = new LaneSlices();
        due("edge", x.edge(1), 0);
        due("edge", x.edge(1), 1);
        due("edge", x.count(4), 1);
        due("edge", x.edge(2), BAD);
        due("edge", x.edge(-1), BAD);
        due("edge", x.count(4), 1);
        due("edge", x.edge(0), 1);
        due("edge", x.edge(0), 0);
    }

    private static void push() {
        LaneSlices x = Make.numbered();
        due("push", x.push(0, 5), 32);
        due("push", x.push(0, 0), 16);
        x.put(33, 0, 0);
        due("a MASK stays as it was pushed", x.active(), 0xAAAAAAAA00000000L);
        due("push", x.push(8, 0), BAD);
        due("push", x.push(-1, 0), BAD);
        due("push", x.push(0, 8), BAD);
        due("push", x.push(0, -1), BAD);
        due("MASKS", x.count(1), 2);
        for (int i = 2; i < 8; i++) {
            due("push", x.push(0, 1), 8);
        }
        due("push", x.push(0, 1), FULL);
        due("BAD ahead of FULL", x.push(8, 1), BAD);
        due("MASKS", x.count(1), 8);
        due("active", x.active(), 0x8888888800000000L);
    }

    private static void other() {
        LaneSlices x = Make.numbered();
        due("other", x.other(), STATE);
        x.push(0, 5);
        x.push(0, 0);
        due("other", x.other(), 16);
        due("the topmost alone is turned", x.active(), 0x5555555500000000L);
        due("other", x.other(), 16);
        due("other", x.active(), 0xAAAAAAAA00000000L);
        x.pop();
        due("other", x.other(), 32);
        due("other", x.active(), 0xFFFFFFFFL);
        LaneSlices y = new LaneSlices();
        due("push", y.push(0, 0), 0);
        due("other", y.other(), 64);
        for (int i = 1; i < 8; i++) {
            due("push", y.push(0, 0), 0);
            due("other of " + i, y.other(), 64);
        }
    }

    private static void pop() {
        LaneSlices x = Make.numbered();
        due("pop", x.pop(), STATE);
        x.push(0, 5);
        x.push(0, 0);
        due("pop", x.pop(), 32);
        due("pop", x.active(), 0xFFFFFFFF00000000L);
        due("pop", x.pop(), 64);
        due("pop", x.pop(), STATE);
        due("MASKS", x.count(1), 0);
        due("refused", x.refused(2), 2);
        due("push again", x.push(0, 1), 32);
    }

    private static void active() {
        LaneSlices x = Make.numbered();
        due("active", x.active(), -1L);
        x.push(0, 3);
        due("active", x.active(), 0xFF00FF00FF00FF00L);
        x.push(0, 4);
        due("active", x.active(), 0xFF000000FF000000L);
        x.push(0, 6);
        due("active", x.active(), 0L);
        x.pop();
        due("active", x.active(), 0xFF000000FF000000L);
    }

    private static void reduce() {
        LaneSlices x = Make.numbered();
        x.put(20, 0, 255);
        x.put(40, 0, 255);
        int[] want = {2016 - 60 + 510, 255, 0, 255, 0, 63, 20};
        for (int what = 0; what < 7; what++) {
            due("reduce " + what, x.reduce(what, 0), want[what]);
        }
        x.lay(7, 0, 0xE0L | 1L << 40);
        x.push(7, 0);
        int[] masked = {5 + 6 + 7 + 255, 255, 5, 255, 4, 4, 40};
        for (int what = 0; what < 7; what++) {
            due("reduce " + what + ", masked", x.reduce(what, 0), masked[what]);
        }
        x.push(6, 0);
        int[] nothing = {0, NONE, NONE, 0, 255, 0, NONE};
        for (int what = 0; what < 7; what++) {
            due("reduce " + what + " of nothing", x.reduce(what, 0), nothing[what]);
        }
        LaneSlices y = new LaneSlices();
        y.fill(0, 255);
        due("the greatest sum", y.reduce(0, 0), 64 * 255);
        due("all bits", y.reduce(4, 0), 255);
        due("reduce", y.reduce(7, 0), BAD);
        due("reduce", y.reduce(-1, 0), BAD);
        due("reduce", y.reduce(0, 8), BAD);
        due("reduce", y.reduce(0, -1), BAD);
        y.put(0, 1, 0);
        due("first of equals", y.reduce(6, 1), 0);
        y.put(0, 0, 254);
        due("first of the greatest", y.reduce(6, 0), 1);
        due("the least", y.reduce(2, 0), 254);
        for (int k = 0; k < 8; k++) {
            // A number with bit k alone is above one with all the bits below k.
            y.fill(2, (1 << k) - 1);
            y.put(50, 2, 1 << k);
            due("the greatest", y.reduce(1, 2), 1 << k);
            due("its first LANE", y.reduce(6, 2), 50);
            y.fill(3, 1 << k);
            y.put(49, 3, (1 << k) - 1);
            due("the least", y.reduce(2, 3), (1 << k) - 1);
        }
    }

    private static void part() {
        LaneSlices x = Make.numbered();
        for (int level = 0; level < 7; level++) {
            int size = 1 << level;
            for (int i = 0; i < 64 >> level; i++) {
                int want = 0;
                for (int lane = i * size; lane < (i + 1) * size; lane++) {
                    want += lane;
                }
                due("part(0, " + level + ", " + i + ")", x.part(0, level, i), want);
            }
            due("part beyond", x.part(0, level, 64 >> level), BAD);
            due("part below", x.part(0, level, -1), BAD);
        }
        due("part", x.part(0, 7, 0), BAD);
        due("part", x.part(0, -1, 0), BAD);
        due("part", x.part(0, MAX, 0), BAD);
        due("part", x.part(0, 32, 0), BAD);
        due("part", x.part(8, 0, 0), BAD);
        due("part", x.part(-1, 0, 0), BAD);
        x.push(0, 0);
        due("part, masked", x.part(0, 3, 1), 9 + 11 + 13 + 15);
        due("part, masked", x.part(0, 6, 0), 1024);
        due("part, masked", x.part(0, 0, 2), 0);
    }

    private static void rank() {
        LaneSlices x = Make.numbered();
        x.put(63, 0, 10);
        due("rank", x.rank(0, 0), 0);
        due("rank", x.rank(10, 0), 10);
        due("rank of an equal one", x.rank(63, 0), 10);
        due("rank", x.rank(62, 0), 63);
        due("rank", x.rank(62, 1), 0);
        x.push(0, 0);
        due("rank, masked, not active", x.rank(62, 0), 31);
        due("rank, masked, active", x.rank(11, 0), 5);
        for (int bad : NO_LANES) {
            due("rank", x.rank(bad, 0), BAD);
        }
        due("rank", x.rank(0, 8), BAD);
        due("rank", x.rank(0, -1), BAD);
    }

    private static void alike() {
        LaneSlices x = new LaneSlices();
        due("alike", x.alike(0), -1L);
        x.put(5, 7, 128);
        due("alike", x.alike(5), 1L << 5);
        due("alike", x.alike(0), ~(1L << 5));
        x.put(63, 7, 128);
        due("alike", x.alike(63), 1L << 5 | 1L << 63);
        x.put(63, 0, 1);
        due("all VARIABLES", x.alike(63), 1L << 63);
        x.push(0, 0);
        due("MASKS don't matter", x.alike(0), ~(1L << 5 | 1L << 63));
        for (int bad : NO_LANES) {
            due("alike", x.alike(bad), 0L);
        }
        due("alike refuses nothing", x.refused(0), 0);
    }

    private static void region() {
        LaneSlices x = new LaneSlices();
        due("region", x.region(9, 0), -1L);
        x.lay(0, 0, 0xFFL << 8);
        x.lay(0, 3, 0x80L << 8);
        due("a row", x.region(10, 0), 0x7FL << 8);
        due("one LANE", x.region(15, 0), 0x80L << 8);
        due("above", x.region(3, 0), 0xFFL);
        due("below", x.region(63, 0), 0xFFFFFFFFFFFF0000L);
        x.edge(1);
        due("around", x.region(3, 0), 0xFFFFFFFFFFFF00FFL);
        x.lay(0, 0, 0L);
        x.lay(0, 3, 0L);
        x.lay(1, 2, 0x8000000000000081L);
        due("around a corner", x.region(7, 1), 0x8000000000000081L);
        x.edge(0);
        due("no slanting move", x.region(7, 1), 0x80L);
        x.lay(2, 0, 0x8040201008040201L);
        due("no slanting move", x.region(9, 2), 1L << 9);
        x.push(3, 0);
        due("MASKS don't matter", x.region(0, 3), -1L);
        for (int bad : NO_LANES) {
            due("region", x.region(bad, 0), 0L);
        }
        due("region", x.region(0, 8), 0L);
        due("region", x.region(0, -1), 0L);
        due("region refuses nothing", x.refused(0), 0);
        LaneSlices snake = new LaneSlices();
        long path = 0xFF01FF80FF01FFL | 0x80L << 56;
        snake.lay(0, 0, path);
        due("a long one", snake.region(0, 0), path);
    }

    private static void regions() {
        LaneSlices x = new LaneSlices();
        due("regions", x.regions(0), 1);
        x.lay(0, 0, 0xAA55AA55AA55AA55L);
        due("a chequered square", x.regions(0), 64);
        x.lay(1, 0, 0xFFL << 24);
        due("regions", x.regions(1), 3);
        x.edge(1);
        due("regions around", x.regions(1), 2);
        due("a chequered square", x.regions(0), 64);
        LaneSlices y = Make.numbered();
        due("all different", y.regions(0), 64);
        due("regions", y.regions(8), BAD);
        due("regions", y.regions(-1), BAD);
    }

    private static void way() {
        LaneSlices x = new LaneSlices();
        due("way without a number", x.way(0, 1, 0), NONE);
        for (int lane = 0; lane < 64; lane++) {
            due("no way to itself where the number is 0", x.way(lane, lane, 0), NONE);
            x.put(lane, 0, 1 << lane % 8);
            due("way to itself", x.way(lane, lane, 0), 0);
            due("by another VARIABLE", x.way(lane, lane, 1), NONE);
            x.put(lane, 0, 0);
        }
        x.fill(0, 128);
        due("way", x.way(0, 63, 0), 14);
        due("way", x.way(63, 0, 0), 14);
        due("way", x.way(7, 8, 0), 8);
        x.edge(1);
        due("way around", x.way(0, 63, 0), 2);
        due("way around", x.way(7, 8, 0), 2);
        x.edge(0);
        x.put(63, 0, 0);
        due("no end", x.way(0, 63, 0), NONE);
        due("no beginning", x.way(63, 0, 0), NONE);
        due("neither", x.way(63, 63, 0), NONE);
        x.edge(1);
        due("no end around", x.way(0, 63, 0), NONE);
        due("no beginning around", x.way(63, 0, 0), NONE);
        due("neither around", x.way(63, 63, 0), NONE);
        x.edge(0);
        x.lay(1, 0, 0xFF01FF80FF01FFL | 0x80L << 56);
        due("a long way", x.way(7, 63, 1), 35);
        x.lay(1, 0, 0xFF01FF80FF01FFL & ~(1L << 31) | 0x80L << 56);
        due("a wall", x.way(7, 63, 1), NONE);
        x.push(5, 0);
        due("MASKS don't matter", x.way(0, 1, 0), 1);
        due("MASKS don't matter", x.way(0, 0, 0), 0);
        due("no REFUSAL", x.refused(0), 0);
        for (int bad : NO_LANES) {
            due("way", x.way(bad, 0, 0), BAD);
            due("way", x.way(0, bad, 0), BAD);
        }
        due("way", x.way(0, 0, 8), BAD);
        due("way", x.way(0, 0, -1), BAD);
    }

    private static void feed() {
        LaneSlices x = new LaneSlices();
        due("feed", x.feed(0x3B31203D61L, 2), 2);
        due("feed", x.feed(0x31L, 1), 3);
        due("the lowest first", x.text(), 1);
        due("feed", x.feed(0x62L << 56 | 0x30303D61L, 8), 8);
        x.wipe();
        due("feed", x.feed(0L, 0), BAD);
        due("feed", x.feed(0L, 9), BAD);
        due("feed", x.feed(0L, -1), BAD);
        due("feed", x.feed(0L, MIN), BAD);
        due("feed", x.feed(0L, MAX), BAD);
        for (int i = 1; i <= 19; i++) {
            due("feed", x.feed(-1L, 8), 8 * i);
        }
        due("feed", x.feed(-1L, 7), 159);
        due("feed", x.feed(-1L, 2), FULL);
        due("BAD ahead of FULL", x.feed(-1L, 9), BAD);
        due("bytes", x.count(2), 159);
        due("feed", x.feed(-1L, 1), 160);
        due("feed", x.feed(-1L, 1), FULL);
        due("bytes", x.count(2), 160);
        due("refused", x.refused(1), 2);
    }

    private static void wipe() {
        LaneSlices x = Make.with("a=1");
        due("wipe", x.wipe(), 0);
        Make.feedAll(x, "b=23;");
        due("wipe", x.wipe(), 5);
        due("wipe", x.wipe(), 0);
        due("bytes", x.count(2), 0);
        due("the PROGRAM stays", x.count(3), 1);
        due("what was wiped is gone", Make.read(x, "c=1"), 1);
    }

    private static void text() {
        good("a=1", 1);
        good("a=b;c=d", 2);
        good("a@nb;a@eb;a@sb;a@wb", 4);
        good("[a:b=1]", 2);
        good("[a:b=1|c=2;d=3]", 4);
        good("{a:b=1}", 2);
        good("{b<9:b=b+1};[b=9:c=#|c=1];{c:c=c-1;d=d+2}", 8);
        good("a=b=c", 1);
        good("a=(b=c)=(d<e)", 1);
        good("h=~~a+~(b&c)*#-007", 1);
        good("[a=b:[c<d:e=f|g=h]|{h:a@wh}]", 6);
        LaneSlices x = Make.with("a=7;b=8");
        Make.feedAll(x, "c=");
        due("a FAULT", x.text(), -12);
        due("THE TAPE is empty then", x.count(2), 0);
        due("the one ahead stays", x.count(3), 2);
        due("the one ahead stays", x.then(1, 0, 1), 8);
        due("another", Make.read(x, "a=9"), 1);
        due("THE TAPE is empty then", x.count(2), 0);
        due("in place of one ahead", x.then(1, 0, 0), 9);
        due("in place of one ahead", x.then(1, 0, 1), 0);
        due("an empty one", x.text(), -10);
    }

    private static void textFaults() {
        fault("", 0);
        fault("a", 1);
        fault("a=", 2);
        fault("a@", 2);
        fault("a@n", 3);
        fault("a=1;", 4);
        fault(";", 0);
        fault("a=1;;b=1", 4);
        fault("i=1", 0);
        fault("A=1", 0);
        fault("a=i", 2);
        fault("1=a", 0);
        fault("a@xa", 2);
        fault("a@ni", 3);
        fault("a@n1", 3);
        fault("a@nb+1", 4);
        fault("a=256", 2);
        fault("a=999", 2);
        fault("a=2567", 2);
        fault("a=b+300", 4);
        fault("a=1234", 5);
        fault("a=0001", 5);
        fault("a=2550", 5);
        fault("a=1 ", 3);
        fault("a =1", 1);
        fault("a=b<c<d", 5);
        fault("a=b<c=d", 5);
        fault("a=b=c=d", 5);
        fault("a=b=c<d", 5);
        fault("a=+1", 2);
        fault("a=1+", 4);
        fault("a=1*", 4);
        fault("a=1+*2", 4);
        fault("a=-1", 2);
        fault("a=a~b", 3);
        fault("a=()", 3);
        fault("a=(1", 4);
        fault("a=(1]", 4);
        fault("a=1)", 3);
        fault("a=##", 3);
        fault("a=1a", 3);
        fault("a=a1", 3);
        fault("a=(a)(b)", 5);
        fault("[", 1);
        fault("[a", 2);
        fault("[a:", 3);
        fault("[a:b=1", 6);
        fault("[a:b=1}", 6);
        fault("[a:b=1|", 7);
        fault("[a:b=1|]", 7);
        fault("[a:]", 3);
        fault("[:a=1]", 1);
        fault("[a;b=1]", 2);
        fault("[a:b=1|c=1|d=1]", 10);
        fault("[a<b<c:d=1]", 4);
        fault("{a:b=1|c=1}", 6);
        fault("{a:b=1]", 6);
        fault("{a:b=1", 6);
        fault("{a:}", 3);
        fault("a=1]", 3);
        fault("a=1}", 3);
        fault("a=1|b=1", 3);
        fault("a=1:", 3);
        fault("[a:b=1]c=1", 7);
        fault("[a:b=1];", 8);
        fault("a=" + (char) 200, 2);
        fault("a=1" + (char) 0, 3);
    }

    private static void textLimits() {
        good("[a:[b:[c:[d:e=1]]]]", 5);
        fault("[a:[b:[c:[d:[e:f=1]]]]]", 12);
        fault("[a:[b:[c:[d:{e:f=1}]]]]", 12);
        fault("{a:{b:[c:[d:[e:f=1]]]}}", 12);
        fault("[a:b=1|[c:d=1|[e:f=1|{g:h=1;[a:b=1]", 28);
        good("[a:{b:[c:{d:e=1}]}]", 5);
        good("{a:{b:[c:[d:e=1]]}}", 5);
        fault("{a:{b:{c:d=1}}}", 6);
        fault("[a:{b:{c:{d:e=1}}}]", 9);
        good("{a:{b:c=1};{b:c=2}};{a:{b:c=1}}", 8);
        good("[a:[b:[c:[d:e=1];[d:e=1]|[d:e=1|f=2]]]]", 10);
        good("a=(((((1)))))", 1);
        fault("a=((((((1))))))", 7);
        good("a=~~~~~1", 1);
        fault("a=~~~~~~1", 7);
        good("a=(~(~(b)))", 1);
        good("a=~(~(~b))", 1);
        fault("a=~(~(~(b)))", 7);
        fault("a=((((~(b)))))", 7);
        good("a=~a+~a+~a+~a+~a+~a+~a", 1);
        good("a=~~~a*(((((b)))))", 1);
        good("a=(~~~~a+(((b))))", 1);
        good("[(((((a))))):b=(((((c)))))]", 2);
        fault("[((((((a))))))", 6);
        good("[a:b=(((((c)))))|[a:b=~~~~~c]]", 4);
        good("a=255", 1);
        good("a=000", 1);
        StringBuilder longest = new StringBuilder("a=1");
        for (int i = 1; i < 40; i++) {
            longest.append(";a=1");
        }
        due("159 bytes", longest.length(), 159);
        good(longest.toString(), 40);
        good(longest + "2", 40);
        fault(longest + ";", 160);
        good("a=a" + "+a".repeat(78), 1);
        // Each level is 1 where the one within it is; at the deepest place 19 numbers wait.
        LaneSlices x = Make.with("a=1=2-1*(1=2-1*(1=2-1*(1=2-1*(1=2-1*(1=2-1*b)))))");
        x.lay(1, 0, 0x123456789L);
        x.run(1);
        due("a deep E", x.plane(0, 0), 0x123456789L);
    }

    private static int valueOf(String formula) {
        LaneSlices x = Make.with("h=" + formula);
        for (int v = 0; v < 7; v++) {
            x.put(37, v, v * 30 + 5);
        }
        return x.then(1, 37, 7);
    }

    private static void run() {
        LaneSlices x = Make.with("a=#;b=a*a");
        due("run", x.run(1), 14 + 144);
        due("run", x.lane(20, 1), 400 & 255);
        due("run", x.run(30), 30 * 158);
        due("STEPS", x.count(0), 31 * 158);
        due("run", x.run(0), BAD);
        due("run", x.run(31), BAD);
        due("run", x.run(-1), BAD);
        due("run", x.run(MIN), BAD);
        due("run", x.run(MAX), BAD);
        due("STEPS", x.count(0), 31 * 158);
        LaneSlices y = new LaneSlices();
        due("run without a PROGRAM", y.run(1), STATE);
        due("BAD ahead of STATE", y.run(0), BAD);
        LaneSlices z = Make.with("a=a+1");
        Make.only(z, 0x3L);
        due("run, masked", z.run(3), 3 * 32);
        due("run, masked", z.lane(1, 0), 3);
        due("run, masked", z.lane(2, 0), 0);
        z.push(6, 0);
        due("run without lanes", z.run(1), 0);
        due("run without lanes", z.lane(1, 0), 3);
        due("STEPS", z.count(0), 96);
    }

    /** Which sign binds more, and on which side it begins. */
    private static void runOrders() {
        due("a number", valueOf("255"), 255);
        due("a number", valueOf("007"), 7);
        due("#", valueOf("#"), 37);
        due("~", valueOf("~0"), 255);
        due("~", valueOf("~a"), 250);
        due("~~", valueOf("~~a"), 5);
        due("a VARIABLE", valueOf("g"), 185);
        due("- from the left", valueOf("9-3-2"), 4);
        due("- below 0", valueOf("3-5"), 254);
        due("* ahead of +", valueOf("2+3*4"), 14);
        due("( )", valueOf("(2+3)*4"), 20);
        due("* and & from the left", valueOf("6&3*5"), 10);
        due("* and & from the left", valueOf("3*5&6"), 6);
        due("~ of one U", valueOf("~1&3"), 2);
        due("~ of ( )", valueOf("~(1&3)"), 254);
        due("+ ahead of <", valueOf("1+1<3"), 1);
        due("<", valueOf("3<3"), 0);
        due("<", valueOf("2<255"), 1);
        due("=", valueOf("3=3"), 1);
        due("=", valueOf("3=4"), 0);
        due("modulo 256", valueOf("200+100"), 44);
        due("modulo 256", valueOf("200*200"), 64);
        due("E in ( )", valueOf("(1<2)+(2=2)+(3<2)"), 2);
        due("STEPS of a number", Make.with("a=1").steps(1), 16);
        due("STEPS of a VARIABLE", Make.with("a=b").steps(1), 8);
        due("STEPS of #", Make.with("a=#").steps(1), 14);
        due("STEPS of ~", Make.with("a=~b").steps(1), 16);
        due("STEPS of ~~", Make.with("a=~~b").steps(1), 24);
        due("STEPS of +", Make.with("a=b+c").steps(1), 24);
        due("STEPS of -", Make.with("a=b-c").steps(1), 24);
        due("STEPS of *", Make.with("a=b*c").steps(1), 144);
        due("STEPS of &", Make.with("a=b&c").steps(1), 16);
        due("STEPS of <", Make.with("a=b<c").steps(1), 17);
        due("STEPS of =", Make.with("a=b=c").steps(1), 17);
        due("STEPS of ( )", Make.with("a=((b))").steps(1), 8);
        due("STEPS of @", Make.with("a@nb").steps(1), 8);
        LaneSlices x = Make.with("a=a+1;b=a;c@wa");
        x.edge(1);
        x.put(8, 0, 5);
        x.run(1);
        due("as all stands", x.lane(8, 1), 6);
        due("EDGE of @", x.lane(8, 2), 1);
        due("@ w", x.lane(9, 2), 6);
        LaneSlices y = Make.with("a@na;b@ec;c@sc;d@wd");
        for (int lane = 0; lane < 64; lane++) {
            y.put(lane, 0, lane);
            y.put(lane, 2, lane);
            y.put(lane, 3, lane);
        }
        y.run(1);
        due("@ n", y.lane(20, 0), 12);
        due("@ n beyond", y.lane(3, 0), 0);
        due("@ e", y.lane(20, 1), 21);
        due("@ e beyond", y.lane(23, 1), 0);
        due("@ s", y.lane(20, 2), 28);
        due("@ s beyond", y.lane(60, 2), 0);
        due("@ w", y.lane(20, 3), 19);
        due("@ w beyond", y.lane(16, 3), 0);
        LaneSlices z = Make.with("a@wb");
        z.fill(1, 9);
        Make.only(z, 2L);
        z.run(1);
        due("from a LANE that isn't active", z.lane(1, 0), 9);
        due("not active", z.lane(2, 0), 0);
    }

    private static void runChoices() {
        LaneSlices x = Make.with("[#<8:a=1;b=2|a=3]");
        // # 6, 8: 8, <: 9, [ ]: 2; a=1: 16, b=2: 16; a=3: 16
        due("STEPS of [ | ]", x.run(1), 25 + 32 + 16);
        due("P", x.lane(7, 0), 1);
        due("P", x.lane(7, 1), 2);
        due("Q", x.lane(8, 0), 3);
        due("Q", x.lane(8, 1), 0);
        LaneSlices y = Make.with("[a:a=0;b=1|a=9;b=2]");
        y.put(3, 0, 200);
        y.run(1);
        due("Q by the others, as E was ahead", y.lane(3, 0), 0);
        due("Q by the others, as E was ahead", y.lane(3, 1), 1);
        due("Q by the others, as E was ahead", y.lane(4, 0), 9);
        LaneSlices p = Make.with("[a:b=1|c=1]");
        due("P left out", p.steps(1), 2 + 16);
        p.fill(0, 2);
        due("Q left out", p.steps(1), 2 + 16);
        p.put(0, 0, 0);
        due("both", p.steps(1), 2 + 32);
        LaneSlices q = Make.with("[a:b=1]");
        due("P left out, no Q", q.steps(1), 2);
        LaneSlices inside = Make.with("[a:[b:c=1|d=1]|[b:e=1|f=1]]");
        inside.lay(0, 0, 0x3L);
        inside.lay(1, 0, 0x5L);
        inside.run(1);
        due("[ in [", inside.plane(2, 0), 0x1L);
        due("[ in [", inside.plane(3, 0), 0x2L);
        due("[ in [", inside.plane(4, 0), 0x4L);
        due("[ in [", inside.plane(5, 0), ~0x7L);
        LaneSlices deep = Make.with("[a:[b:[c:[d:e=1|f=1]|[d:g=1]]|[c:[d:h=1]]]|[b:e=8|e=9]]");
        deep.lay(0, 0, 0xFFL);
        deep.lay(1, 0, 0xF0FL);
        deep.lay(2, 0, 0x33L);
        deep.lay(3, 0, 0x55L);
        deep.run(1);
        due("four open", deep.plane(4, 0) & 0xFFL, 0x1L);
        due("four open", deep.plane(5, 0), 0x2L);
        due("four open", deep.plane(6, 0), 0x4L);
        due("four open", deep.plane(7, 0), 0x10L);
        due("Q", deep.plane(4, 3), ~0xFFL);
        due("Q", deep.plane(4, 0) & ~0xFFL, ~0xFFFL);
        LaneSlices loops = Make.with("[1:[0:a=1|{b<3:{c<2:c=c+1;d=d+1};b=b+1;c=0}]]");
        loops.run(1);
        due("two { in two [", loops.lane(63, 3), 6);
        Make.only(inside, 0x9L);
        Make.only(inside, 0x9L);
        inside.fill(2, 0);
        inside.fill(5, 0);
        inside.run(1);
        due("[ in MASKS", inside.plane(2, 0), 0x1L);
        due("[ in MASKS", inside.plane(5, 0), ~0x7L);
    }

    private static void runLoops() {
        LaneSlices x = Make.with("{a:a=a-1;b=b+1}");
        x.put(0, 0, 3);
        x.put(1, 0, 5);
        // E 6 times: 1 each; P 5 times: 32 and 32
        due("STEPS of { }", x.run(1), 6 + 5 * 64);
        due("{ }", x.lane(0, 1), 3);
        due("{ }", x.lane(1, 1), 5);
        due("{ }", x.lane(2, 1), 0);
        LaneSlices y = Make.with("{a:a=a-1;b=b+1}");
        y.put(0, 0, 20);
        due("20 times", y.steps(1), 20 + 20 * 64);
        y.put(0, 0, 19);
        due("20 times, P 19 times", y.steps(1), 20 + 19 * 64);
        y.put(0, 0, 21);
        due("20 times", y.run(1), 20 + 20 * 64);
        due("20 times", y.lane(0, 0), 1);
        due("20 times", y.lane(0, 1), 20);
        LaneSlices z = Make.with("{a:a=0;b=b+1;c@wb;[c:a=1]}");
        z.put(4, 0, 1);
        z.put(5, 0, 0);
        z.run(1);
        due("out of it for good", z.lane(5, 1), 0);
        due("out of it for good", z.lane(4, 1), 1);
        LaneSlices out = Make.with("{(#<2)=b:c=c+1;[#=0:b=1|b=2]}");
        // lanes 0 and 1 have # < 2, so 1; b is 0: only the others begin
        out.run(1);
        due("{ } by the others", out.lane(0, 2), 0);
        due("{ } by the others", out.lane(9, 2), 1);
        LaneSlices never = Make.with("{0:a=1}");
        due("P left out", never.run(1), 9);
        due("P left out", never.lane(0, 0), 0);
        LaneSlices ever = Make.with("{1:a=a+1;{1:b=b+1}}");
        // outer: 20 times 9; a=a+1: 32; inner: 20 times 9 and 32
        due("{ in {", ever.run(1), 20 * (9 + 32 + 20 * (9 + 32)));
        due("{ in {", ever.lane(63, 0), 20);
        due("{ in {", ever.lane(63, 1), 400 & 255);
    }

    private static void then() {
        LaneSlices x = Make.with("a=a+#");
        due("then", x.then(0, 9, 0), 0);
        due("then", x.then(1, 9, 0), 9);
        due("then", x.then(30, 9, 0), 270 & 255);
        due("nothing changes", x.lane(9, 0), 0);
        due("no STEPS are taken", x.count(0), 0);
        due("then", x.then(31, 0, 0), BAD);
        due("then", x.then(-1, 0, 0), BAD);
        due("then", x.then(0, 64, 0), BAD);
        due("then", x.then(0, -1, 0), BAD);
        due("then", x.then(0, 0, 8), BAD);
        due("then", x.then(0, 0, -1), BAD);
        Make.only(x, 1L);
        due("then, masked", x.then(2, 9, 0), 0);
        LaneSlices y = new LaneSlices();
        due("then without a PROGRAM", y.then(0, 0, 0), STATE);
        due("BAD ahead of STATE", y.then(31, 0, 0), BAD);
        due("BAD ahead of STATE", y.then(0, 64, 0), BAD);
    }

    private static void steps() {
        LaneSlices x = Make.with("[a:b=1];a=1");
        due("steps", x.steps(0), 0);
        due("steps", x.steps(1), 18);
        due("steps", x.steps(2), 18 + 34);
        due("steps", x.steps(30), 18 + 29 * 34);
        due("nothing changes", x.lane(0, 0), 0);
        due("no STEPS are taken", x.count(0), 0);
        due("steps", x.steps(31), BAD);
        due("steps", x.steps(-1), BAD);
        x.push(7, 0);
        due("steps without lanes", x.steps(5), 0);
        LaneSlices y = new LaneSlices();
        due("steps without a PROGRAM", y.steps(0), STATE);
        due("BAD ahead of STATE", y.steps(31), BAD);
    }

    private static void changed() {
        LaneSlices x = Make.with("a=1-a;[#=5:h=h+1]");
        due("changed", x.changed(0), 0L);
        due("changed", x.changed(1), -1L);
        due("changed and back", x.changed(2), 1L << 5);
        due("changed", x.changed(31), 0L);
        due("changed", x.changed(-1), 0L);
        due("changed refuses nothing", x.refused(0), 0);
        due("nothing changes", x.lane(5, 7), 0);
        Make.only(x, 0xF0L);
        due("changed, masked", x.changed(1), 0xF0L);
        due("changed without a PROGRAM", new LaneSlices().changed(1), 0L);
        LaneSlices y = new LaneSlices();
        y.changed(1);
        due("changed refuses nothing", y.refused(2), 0);
    }

    private static void settles() {
        due("settles at once", Make.with("a=a").settles(), 0);
        due("settles", Make.with("a=5").settles(), 1);
        due("never", Make.with("a=a+1").settles(), NONE);
        LaneSlices x = Make.with("[a<29:a=a+1]");
        due("29 times", x.settles(), 29);
        due("from how all is", x.settles(), 29);
        x.run(9);
        due("from how all is", x.settles(), 20);
        LaneSlices y = Make.with("[a<30:a=a+1]");
        due("30 times", y.settles(), 30);
        LaneSlices z = Make.with("[a<31:a=a+1]");
        due("31 times", z.settles(), NONE);
        due("nothing changes", z.lane(0, 0), 0);
        LaneSlices one = Make.with("[#=63:[h<7:h=h+1]]");
        due("one LANE", one.settles(), 7);
        one.push(7, 0);
        due("without lanes", one.settles(), 0);
        due("settles without a PROGRAM", new LaneSlices().settles(), STATE);
    }

    private static void first() {
        LaneSlices x = Make.with("a=a+#");
        due("first", x.first(3, 0, 0), 0);
        due("first", x.first(3, 0, 3), 1);
        due("first", x.first(3, 0, 90), 30);
        due("first", x.first(3, 0, 93), NONE);
        due("first", x.first(3, 0, 4), NONE);
        due("first", x.first(63, 0, 256 - 4), 4);
        due("nothing changes", x.lane(3, 0), 0);
        x.then(5, 3, 0);
        due("from how all is", x.first(3, 0, 3), 1);
        x.run(2);
        due("from how all is", x.first(3, 0, 9), 1);
        due("from how all is", x.first(3, 0, 3), NONE);
        due("first", x.first(64, 0, 0), BAD);
        due("first", x.first(-1, 0, 0), BAD);
        due("first", x.first(0, 8, 0), BAD);
        due("first", x.first(0, -1, 0), BAD);
        due("first", x.first(0, 0, 256), BAD);
        due("first", x.first(0, 0, -1), BAD);
        LaneSlices y = new LaneSlices();
        due("first without a PROGRAM", y.first(0, 0, 0), STATE);
        due("BAD ahead of STATE", y.first(64, 0, 0), BAD);
    }

    private static void again() {
        due("again at once", Make.with("a=a").again(), 1);
        due("again", Make.with("a=1-a").again(), 2);
        due("never", Make.with("a=a+1").again(), NONE);
        LaneSlices x = Make.with("[a=29:a=0|a=a+1]");
        due("30 times", x.again(), 30);
        x.then(7, 0, 0);
        due("from how all is", x.again(), 30);
        LaneSlices y = Make.with("[a=30:a=0|a=a+1]");
        due("31 times", y.again(), NONE);
        LaneSlices z = Make.with("[a<3:a=a+1|a=1]");
        due("never as now", z.again(), NONE);
        z.run(1);
        due("as now", z.again(), 3);
        LaneSlices all = Make.with("a=1-a;h=h+128;[#=9:b=b+64]");
        due("all VARIABLES", all.again(), 4);
        due("nothing changes", all.lane(9, 1), 0);
        due("again without a PROGRAM", new LaneSlices().again(), STATE);
    }

    private static void row() {
        LaneSlices x = new LaneSlices();
        due("row", x.row(0, 0, 64), 1);
        due("row", x.row(3, 3, 0), 1);
        due("row of none", x.judge(0, 3), NONE);
        due("row", x.mark(0, 5, 7L), 1);
        due("row anew", x.row(0, 1, 6), 1);
        due("all 0", x.at(0, 5), 0L);
        due("row", x.row(0, 0, 65), BAD);
        due("row", x.row(0, 0, MAX), BAD);
        due("row", x.row(0, 4, 1), BAD);
        due("row", x.row(0, -2, 1), BAD);
        due("row", x.row(4, 0, 1), BAD);
        due("row", x.row(-1, 0, 1), BAD);
        due("row", x.row(0, 0, -1), PLACE);
        due("row", x.row(0, 0, MIN), PLACE);
        due("BAD ahead of PLACE", x.row(4, 0, -1), BAD);
        due("BAD ahead of PLACE", x.row(0, 4, -1), BAD);
        due("missing", x.row(4, -1, 1), BAD);
        due("the row stays", x.store(0, 0), 6);
        due("missing", x.row(0, -1, MAX), 1);
        due("missing", x.store(0, 0), EMPTY);
        due("missing", x.row(0, -1, -7), 1);
        due("missing twice", x.row(0, -1, 0), 1);
    }

    private static void mark() {
        LaneSlices x = new LaneSlices();
        long[] told = {0x7F, 0x80, 0xFF, 0x7FFF, 0x8000, 0xFFFF, 0x7FFFFFFFL, 0x80000000L, 0xFFFFFFFFL,
            Long.MAX_VALUE, Long.MIN_VALUE, -1L, 0x123456789ABCDEFL};
        for (int sort = 0; sort < 4; sort++) {
            x.row(sort, sort, 13);
        }
        for (int i = 0; i < told.length; i++) {
            for (int sort = 0; sort < 4; sort++) {
                due("mark", x.mark(sort, i, told[i]), 1);
            }
            due("a byte", x.at(0, i), (byte) told[i]);
            due("a short", x.at(1, i), (short) told[i]);
            due("an int", x.at(2, i), (int) told[i]);
            due("a long", x.at(3, i), told[i]);
        }
        due("mark", x.mark(0, 13, 0L), PLACE);
        due("mark", x.mark(0, -1, 0L), PLACE);
        due("mark", x.mark(0, MIN, 0L), PLACE);
        due("mark", x.mark(0, MAX, 0L), PLACE);
        due("mark", x.mark(4, 0, 0L), BAD);
        due("mark", x.mark(-1, 0, 0L), BAD);
        x.row(0, -1, 0);
        due("mark", x.mark(0, 0, 0L), EMPTY);
        due("EMPTY ahead of PLACE", x.mark(0, -1, 0L), EMPTY);
        x.row(0, 0, 0);
        due("no place", x.mark(0, 0, 0L), PLACE);
    }

    private static void at() {
        LaneSlices x = new LaneSlices();
        x.row(1, 3, 2);
        x.mark(1, 0, 11L);
        x.mark(1, 1, 12L);
        due("at", x.at(1, 0), 11L);
        due("at", x.at(1, 1), 12L);
        due("at", x.at(1, 2), 0L);
        due("at", x.at(1, -1), 0L);
        due("at", x.at(1, MAX), 0L);
        due("at", x.at(1, MIN), 0L);
        due("at", x.at(0, 0), 0L);
        due("at", x.at(4, 0), 0L);
        due("at", x.at(-1, 0), 0L);
        x.row(1, 3, 1);
        due("at", x.at(1, 1), 0L);
        for (int which = 0; which < 5; which++) {
            due("at refuses nothing", x.refused(which), 0);
        }
    }

    private static void load() {
        LaneSlices x = new LaneSlices();
        x.fill(0, 7);
        x.row(2, 1, 10);
        for (int i = 0; i < 10; i++) {
            x.mark(2, i, 250L + i);
        }
        due("load", x.load(0, 2), 10);
        due("load", x.lane(0, 0), 250);
        due("the lowest 8 bits", x.lane(9, 0), 3);
        due("LANES beyond stay", x.lane(10, 0), 7);
        x.fill(0, 7);
        Make.only(x, 0xF03L);
        due("load, masked", x.load(0, 2), 4);
        due("load, masked", x.lane(1, 0), 251);
        due("load, masked", x.lane(2, 0), 7);
        due("load, masked", x.lane(9, 0), 3);
        due("load takes no STEPS", x.count(0), 16);
        x.row(0, 0, 0);
        due("load of none", x.load(0, 0), 0);
        due("load", x.load(0, 1), EMPTY);
        due("load", x.load(8, 0), BAD);
        due("load", x.load(-1, 0), BAD);
        due("load", x.load(0, 4), BAD);
        due("load", x.load(0, -1), BAD);
        due("BAD ahead of EMPTY", x.load(8, 1), BAD);
        x.row(3, 3, 64);
        x.mark(3, 63, -2L);
        x.pop();
        due("load of all", x.load(1, 3), 64);
        due("below 0", x.lane(63, 1), 254);
    }

    private static void store() {
        LaneSlices x = Make.numbered();
        x.put(0, 0, 17);
        x.put(2, 0, 200);
        x.row(0, 0, 3);
        x.row(1, 1, 64);
        due("store", x.store(0, 0), 3);
        due("store", x.at(0, 0), 17L);
        due("store, a byte", x.at(0, 2), -56L);
        due("store", x.store(0, 1), 64);
        due("store, a short", x.at(1, 2), 200L);
        due("store", x.at(1, 63), 63L);
        x.push(7, 0);
        x.put(1, 0, 99);
        due("store, not active", x.store(0, 1), 64);
        due("store, not active", x.at(1, 1), 99L);
        x.row(2, 2, 0);
        due("store of none", x.store(0, 2), 0);
        due("store", x.store(0, 3), EMPTY);
        due("store", x.store(8, 0), BAD);
        due("store", x.store(-1, 0), BAD);
        due("store", x.store(0, 4), BAD);
        due("store", x.store(0, -1), BAD);
        due("BAD ahead of EMPTY", x.store(8, 3), BAD);
    }

    private static void judge() {
        LaneSlices x = Make.numbered();
        x.put(40, 0, 200);
        x.row(0, 0, 64);
        x.row(1, 1, 64);
        x.store(0, 0);
        x.store(0, 1);
        due("a byte below 0", x.judge(0, 0), 40);
        due("judge", x.judge(0, 1), NONE);
        x.mark(1, 63, 64L);
        due("judge", x.judge(0, 1), 63);
        x.mark(1, 0, 256L);
        due("all of the number", x.judge(0, 1), 0);
        x.push(7, 0);
        due("MASKS don't matter", x.judge(0, 1), 0);
        x.row(2, 3, 1);
        due("as far as it goes", x.judge(0, 2), NONE);
        x.row(2, 3, 0);
        due("none", x.judge(0, 2), NONE);
        due("judge", x.judge(0, 3), EMPTY);
        due("judge", x.judge(8, 0), BAD);
        due("judge", x.judge(-1, 0), BAD);
        due("judge", x.judge(0, 4), BAD);
        due("judge", x.judge(0, -1), BAD);
        due("BAD ahead of EMPTY", x.judge(8, 3), BAD);
        LaneSlices y = new LaneSlices();
        y.row(0, 3, 1);
        y.mark(0, 0, 1L << 32);
        due("the highest bits, too", y.judge(0, 0), 0);
    }

    private static void image() {
        LaneSlices x = Make.with("a=a+1");
        due("image", x.image(), 0);
        x.run(2);
        due("image", x.image(), 64);
        x.run(1);
        due("image", x.back(), 64);
        due("the later image", x.lane(0, 0), 2);
        due("images are kept", x.back(), 64);
        due("nothing is refused", x.refused(2), 0);
    }

    private static void back() {
        LaneSlices x = Make.with("a=a+1");
        x.push(0, 0);
        x.other();
        x.run(1);
        x.edge(1);
        x.row(0, 2, 4);
        Make.feedAll(x, "xyz");
        due("image", x.image(), 32);
        x.put(3, 7, 9);
        x.pop();
        x.push(0, 0);
        x.push(0, 0);
        x.edge(0);
        x.run(2);
        x.row(0, 2, 5);
        x.row(1, 2, 5);
        x.wipe();
        Make.read(x, "b=1;c=2");
        Make.feedAll(x, "uv");
        x.lane(64, 0);
        due("back", x.back(), 32);
        due("VARIABLES", x.lane(3, 7), 0);
        due("VARIABLES", x.lane(3, 0), 1);
        due("MASKS", x.count(1), 1);
        due("MASKS", x.active(), -1L);
        due("EDGE", x.count(4), 1);
        due("STEPS", x.count(0), 32);
        due("PROGRAM", x.count(3), 1);
        due("PROGRAM", x.then(1, 0, 0), 2);
        due("THE TAPE stays", x.count(2), 2);
        due("SHELVES stay", x.store(0, 0), 5);
        due("SHELVES stay", x.store(0, 1), 5);
        due("REFUSALS stay", x.refused(0), 1);
        x.put(3, 7, 9);
        due("back again", x.back(), 32);
        due("back again", x.lane(3, 7), 0);
        LaneSlices y = new LaneSlices();
        due("back", y.back(), STATE);
        y.image();
        Make.read(y, "a=1");
        due("back", y.back(), 0);
        due("no PROGRAM", y.count(3), 0);
        due("no PROGRAM", y.run(1), STATE);
        LaneSlices z = Make.numbered();
        z.push(0, 0);
        z.push(0, 1);
        z.image();
        z.pop();
        z.other();
        z.push(0, 5);
        due("MASKS", z.active(), 0x5555555500000000L);
        z.back();
        due("MASKS", z.active(), 0x8888888888888888L);
        z.pop();
        due("MASKS", z.active(), 0xAAAAAAAAAAAAAAAAL);
    }

    private static void count() {
        LaneSlices x = Make.with("a=1;[a:b=2]");
        x.fill(0, 1);
        x.does(2, 1, 0, 0);
        x.route(1, 0, 0);
        due("STEPS", x.count(0), 8 + 136 + 8);
        x.run(1);
        due("STEPS", x.count(0), 152 + 16 + 2 + 16);
        x.steps(5);
        x.settles();
        due("not those IN THOUGHT", x.count(0), 186);
        x.push(0, 0);
        due("MASKS", x.count(1), 1);
        x.feed(0L, 5);
        due("bytes", x.count(2), 5);
        due("S", x.count(3), 3);
        x.edge(1);
        due("EDGE", x.count(4), 1);
        due("count", x.count(5), BAD);
        due("count", x.count(-1), BAD);
        due("count", x.count(MIN), BAD);
        due("refused", x.refused(0), 3);
    }

    private static void refused() {
        LaneSlices x = new LaneSlices();
        x.lane(64, 0);
        x.lane(64, 0);
        for (int i = 0; i < 11; i++) {
            x.push(0, 0);
        }
        for (int i = 0; i < 4; i++) {
            x.settles();
        }
        for (int i = 0; i < 5; i++) {
            x.load(0, 0);
        }
        x.row(0, 0, 0);
        for (int i = 0; i < 6; i++) {
            x.mark(0, 0, 0L);
        }
        int[] want = {2, 3, 4, 5, 6};
        for (int which = 0; which < 5; which++) {
            due("refused(" + which + ")", x.refused(which), want[which]);
        }
        due("refused", x.refused(5), BAD);
        due("refused", x.refused(-1), BAD);
        due("refused", x.refused(MIN), BAD);
        due("counted, too", x.refused(0), 5);
    }

    private static void refusalsChangeNothing() {
        LaneSlices x = Make.with("a=a+1");
        for (int lane = 0; lane < 64; lane++) {
            x.put(lane, 2, lane);
        }
        x.push(2, 0);
        x.put(8, 0, -1);
        x.lay(0, 9, -1L);
        x.fill(0, 300);
        x.does(0, 0, 2, 9);
        x.route(0, 2, 9);
        x.run(31);
        x.push(9, 0);
        x.load(0, 0);
        x.back();
        due("VARIABLES", x.reduce(0, 0), 0);
        due("STEPS", x.count(0), 0);
        due("MASKS", x.active(), 0xAAAAAAAAAAAAAAAAL);
        due("BAD", x.refused(0), 7);
        due("EMPTY", x.refused(3), 1);
        due("STATE", x.refused(2), 1);
    }
}
