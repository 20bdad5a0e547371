import java.util.Random;

/** Random runs of calls on LaneSlices and on PlainModel: each answer must be the same. */
public final class RandomRunsTest {
    private static final int RUNS = 600;
    private static final int CALLS = 512;
    private static final int TEXTS = 200_000;
    private static final int[] WILD = {-1, -2, 4, 8, 9, 31, 32, 63, 64, 65, 128, 255, 256, Integer.MIN_VALUE,
        Integer.MAX_VALUE};

    private final Checks checks;
    private final Random random;
    private LaneSlices x;
    private PlainModel y;
    private String told = "";

    private RandomRunsTest(Checks checks, long seed) {
        this.checks = checks;
        this.random = new Random(seed);
    }

    public static void main(String[] args) {
        Checks checks = new Checks("RandomRunsTest");
        for (int run = 0; run < RUNS && !checks.anyFailed(); run++) {
            new RandomRunsTest(checks, 1000L + run).oneRun(run);
        }
        new RandomRunsTest(checks, 77L).texts();
        checks.end();
    }

    // ---- numbers

    /** Mostly from 0 to high, now and then one that may not be. */
    private int pick(int high) {
        return random.nextInt(40) == 0 ? WILD[random.nextInt(WILD.length)] : random.nextInt(high + 1);
    }

    private int lane() {
        return pick(63);
    }

    private int variable() {
        // Few variables, so that calls often come upon each other's work.
        return random.nextBoolean() ? pick(2) : pick(7);
    }

    private long set() {
        switch (random.nextInt(6)) {
            case 0: return -1L;
            case 1: return 0L;
            case 2: return random.nextLong() | random.nextLong() | random.nextLong();
            case 3: return random.nextLong() & random.nextLong();
            case 4: return 0xFFL << 8 * random.nextInt(8);
            default: return random.nextLong();
        }
    }

    // ---- texts

    private String formula(int depth) {
        String one = sum(depth);
        int which = random.nextInt(6);
        return which > 1 ? one : one + (which == 0 ? "<" : "=") + sum(depth);
    }

    private String sum(int depth) {
        String all = product(depth);
        for (int n = random.nextInt(5); n > 2; n--) {
            all += (random.nextBoolean() ? "+" : "-") + product(depth);
        }
        return all;
    }

    private String product(int depth) {
        String all = unit(depth);
        for (int n = random.nextInt(6); n > 3; n--) {
            all += (random.nextBoolean() ? "*" : "&") + unit(depth);
        }
        return all;
    }

    private String unit(int depth) {
        int which = random.nextInt(depth > 4 ? 6 : 8);
        if (which < 2) {
            int most = random.nextInt(3) == 0 ? 258 : 12;
            return (random.nextInt(20) == 0 ? "0" : "") + random.nextInt(most);
        }
        if (which < 5) {
            return "" + (char) ('a' + random.nextInt(random.nextBoolean() ? 3 : 8));
        }
        return which == 5 ? "#" : which == 6 ? "~" + unit(depth + 1) : "(" + formula(depth + 1) + ")";
    }

    private String deed(int depth) {
        int which = random.nextInt(depth > 3 ? 6 : 9);
        char v = (char) ('a' + random.nextInt(random.nextBoolean() ? 3 : 8));
        if (which < 4) {
            return v + "=" + formula(random.nextInt(4));
        }
        if (which < 6) {
            return v + "@" + "nesw".charAt(random.nextInt(4)) + (char) ('a' + random.nextInt(3));
        }
        String head = formula(3) + ":" + block(depth + 1);
        return which == 6 ? "[" + head + "]" : which == 7 ? "[" + head + "|" + block(depth + 1) + "]" : "{" + head + "}";
    }

    private String block(int depth) {
        String all = deed(depth);
        for (int n = random.nextInt(4); n > 1; n--) {
            all += ";" + deed(depth);
        }
        return all;
    }

    private char anySign() {
        String signs = "abchi=@nesw[]{}:|;<+-*&~#()0125679 ";
        return random.nextInt(30) == 0 ? (char) random.nextInt(256) : signs.charAt(random.nextInt(signs.length()));
    }

    private String spoilt(String text) {
        StringBuilder all = new StringBuilder(text);
        for (int n = random.nextInt(3); n >= 0; n--) {
            int at = random.nextInt(all.length() + 1);
            int which = random.nextInt(4);
            if (which == 0 || at == all.length()) {
                all.insert(at, anySign());
            } else if (which == 1) {
                all.deleteCharAt(at);
            } else if (which == 2) {
                all.setCharAt(at, anySign());
            } else {
                all.setLength(at);
            }
        }
        return all.toString();
    }

    private String someText() {
        String text = block(0);
        if (random.nextInt(12) == 0) {
            StringBuilder any = new StringBuilder();
            for (int n = random.nextInt(12); n > 0; n--) {
                any.append(anySign());
            }
            text = any.toString();
        }
        text = random.nextInt(5) == 0 ? spoilt(text) : text;
        return text.length() > 160 ? text.substring(0, random.nextInt(20) == 0 ? 160 : 40) : text;
    }

    /** Texts alone: a FAULT for each, or how many S. */
    private void texts() {
        for (int i = 0; i < TEXTS && !checks.anyFailed(); i++) {
            if (i % 20 == 0) {
                x = new LaneSlices();
            }
            String text = random.nextBoolean() ? spoilt(someText()) : someText();
            if (text.length() > 160) {
                text = text.substring(0, 160);
            }
            int[] bytes = new int[160];
            for (int j = 0; j < text.length(); j++) {
                bytes[j] = text.charAt(j);
                x.feed(bytes[j], 1);
            }
            checks.due("text() of " + text, x.text(), PlainScanner.scan(bytes, text.length()));
        }
    }

    // ---- runs

    private void due(String what, long got, long want) {
        if (got != want) {
            checks.due(told + "\n  " + what, got, want);
        } else {
            checks.due("", 0, 0);
        }
        told = told + "\n  " + what + " -> " + want;
    }

    private void oneRun(int run) {
        x = new LaneSlices();
        y = new PlainModel();
        told = "run " + run;
        for (int i = 0; i < CALLS / 2 && !checks.anyFailed(); i++) {
            int kind = random.nextInt(100);
            if (kind < 35) {
                lanesAndPlanes();
            } else if (kind < 50) {
                masks();
            } else if (kind < 65) {
                together();
            } else if (kind < 82) {
                programs();
            } else if (kind < 92) {
                shelves();
            } else {
                images();
            }
        }
        for (int lane = 0; lane < 64; lane += 7) {
            due("lane at the end", x.lane(lane, run % 8), y.lane(lane, run % 8));
        }
        for (int v = 0; v < 8; v++) {
            for (int k = 0; k < 8; k++) {
                due("plane at the end", x.plane(v, k), y.plane(v, k));
            }
        }
        for (int which = 0; which < 5; which++) {
            due("refused", x.refused(which), y.refused(which));
            due("count", x.count(which), y.count(which));
        }
    }

    private void lanesAndPlanes() {
        int a = variable();
        int b = variable();
        int c = variable();
        int k = pick(7);
        int lane = lane();
        int number = random.nextBoolean() ? pick(255) : pick(3);
        long set = set();
        switch (random.nextInt(8)) {
            case 0: due("lane(" + lane + ", " + a + ")", x.lane(lane, a), y.lane(lane, a)); break;
            case 1: due("put(" + lane + ", " + a + ", " + number + ")", x.put(lane, a, number), y.put(lane, a, number)); break;
            case 2: due("plane(" + a + ", " + k + ")", x.plane(a, k), y.plane(a, k)); break;
            case 3: due("lay(" + a + ", " + k + ", " + set + ")", x.lay(a, k, set), y.lay(a, k, set)); break;
            case 4: due("fill(" + a + ", " + number + ")", x.fill(a, number), y.fill(a, number)); break;
            case 5: due("does(" + k + ", " + a + ", " + b + ", " + c + ")", x.does(k, a, b, c), y.does(k, a, b, c)); break;
            case 6: {
                int way = pick(3);
                due("route(" + a + ", " + b + ", " + way + ")", x.route(a, b, way), y.route(a, b, way));
                break;
            }
            default: {
                int edge = pick(1);
                due("edge(" + edge + ")", x.edge(edge), y.edge(edge));
                break;
            }
        }
    }

    private void masks() {
        int v = variable();
        int k = random.nextBoolean() ? 0 : pick(7);
        switch (random.nextInt(5)) {
            case 0: due("push(" + v + ", " + k + ")", x.push(v, k), y.push(v, k)); break;
            case 1: due("other()", x.other(), y.other()); break;
            case 2:
            case 3: due("pop()", x.pop(), y.pop()); break;
            default: due("active()", x.active(), y.active()); break;
        }
    }

    private void together() {
        int v = variable();
        int lane = lane();
        int to = random.nextInt(4) == 0 ? lane : lane();
        switch (random.nextInt(7)) {
            case 0: {
                int what = pick(6);
                due("reduce(" + what + ", " + v + ")", x.reduce(what, v), y.reduce(what, v));
                break;
            }
            case 1: {
                int level = pick(6);
                int i = level >= 0 && level <= 6 ? pick((64 >> level) - 1) : 0;
                due("part(" + v + ", " + level + ", " + i + ")", x.part(v, level, i), y.part(v, level, i));
                break;
            }
            case 2: due("rank(" + lane + ", " + v + ")", x.rank(lane, v), y.rank(lane, v)); break;
            case 3: due("alike(" + lane + ")", x.alike(lane), y.alike(lane)); break;
            case 4: due("region(" + lane + ", " + v + ")", x.region(lane, v), y.region(lane, v)); break;
            case 5: due("regions(" + v + ")", x.regions(v), y.regions(v)); break;
            default: due("way(" + lane + ", " + to + ", " + v + ")", x.way(lane, to, v), y.way(lane, to, v)); break;
        }
    }

    private void readText(String text) {
        for (int i = 0; i < text.length(); i += 8) {
            int n = Math.min(8, text.length() - i);
            long bytes = random.nextLong() << (8 * n - 1) << 1;
            for (int j = 0; j < n; j++) {
                bytes |= (text.charAt(i + j) & 255L) << (8 * j);
            }
            due("feed(" + bytes + ", " + n + ")", x.feed(bytes, n), y.feed(bytes, n));
        }
        due("text() of " + text, x.text(), y.text());
    }

    private void programs() {
        int n = random.nextInt(3) == 0 ? pick(30) : pick(4);
        int lane = lane();
        int v = variable();
        int number = pick(20);
        switch (random.nextInt(14)) {
            case 0:
            case 1:
            case 2: readText(someText()); break;
            case 3: {
                long bytes = random.nextLong();
                int many = pick(8);
                due("feed(" + bytes + ", " + many + ")", x.feed(bytes, many), y.feed(bytes, many));
                break;
            }
            case 4: due("wipe()", x.wipe(), y.wipe()); break;
            case 5:
            case 6: due("run(" + n + ")", x.run(n), y.run(n)); break;
            case 7: due("then(" + n + ", " + lane + ", " + v + ")", x.then(n, lane, v), y.then(n, lane, v)); break;
            case 8: due("steps(" + n + ")", x.steps(n), y.steps(n)); break;
            case 9: due("changed(" + n + ")", x.changed(n), y.changed(n)); break;
            case 10: due("settles()", x.settles(), y.settles()); break;
            case 11: due("first(" + lane + ", " + v + ", " + number + ")", x.first(lane, v, number), y.first(lane, v, number)); break;
            case 12: due("again()", x.again(), y.again()); break;
            default: due("text()", x.text(), y.text()); break;
        }
    }

    private void shelves() {
        int k = pick(3);
        int v = variable();
        int i = pick(63);
        switch (random.nextInt(7)) {
            case 0: {
                int sort = pick(4) - 1;
                int n = pick(64);
                due("row(" + k + ", " + sort + ", " + n + ")", x.row(k, sort, n), y.row(k, sort, n));
                break;
            }
            case 1: {
                long to = random.nextBoolean() ? random.nextLong() : random.nextInt(300);
                due("mark(" + k + ", " + i + ", " + to + ")", x.mark(k, i, to), y.mark(k, i, to));
                break;
            }
            case 2: due("at(" + k + ", " + i + ")", x.at(k, i), y.at(k, i)); break;
            case 3: due("load(" + v + ", " + k + ")", x.load(v, k), y.load(v, k)); break;
            case 4: due("store(" + v + ", " + k + ")", x.store(v, k), y.store(v, k)); break;
            default: due("judge(" + v + ", " + k + ")", x.judge(v, k), y.judge(v, k)); break;
        }
    }

    private void images() {
        int which = pick(4);
        switch (random.nextInt(5)) {
            case 0: due("image()", x.image(), y.image()); break;
            case 1: due("back()", x.back(), y.back()); break;
            case 2: due("refused(" + which + ")", x.refused(which), y.refused(which)); break;
            default: due("count(" + which + ")", x.count(which), y.count(which)); break;
        }
    }
}
