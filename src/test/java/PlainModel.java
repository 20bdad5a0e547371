import java.util.ArrayList;
import java.util.List;

/** All that LaneSlices does, done lane by lane with plain numbers: to be held against it. */
final class PlainModel {
    private static final int BAD = -1001;
    private static final int FULL = -1002;
    private static final int STATE = -1003;
    private static final int EMPTY = -1004;
    private static final int PLACE = -1005;
    private static final int NONE = -1;

    private int[][] x = new int[64][8];
    private List<boolean[]> masks = new ArrayList<>();
    private int edge;
    private int taken;
    private String program;
    private int deeds;
    private final int[] tape = new int[160];
    private int tapeLength;
    private final long[][] shelves = new long[4][];
    private final int[] sorts = new int[4];
    private final int[] refusals = new int[5];
    private PlainModel kept;

    private int refuse(int refusal) {
        refusals[-1001 - refusal]++;
        return refusal;
    }

    private static boolean in(int x, int low, int high) {
        return x >= low && x <= high;
    }

    private static boolean isLane(int lane) {
        return in(lane, 0, 63);
    }

    private static boolean isVar(int v) {
        return in(v, 0, 7);
    }

    private boolean[] who() {
        boolean[] all = new boolean[64];
        for (int i = 0; i < 64; i++) {
            all[i] = true;
            for (boolean[] mask : masks) {
                all[i] &= mask[i];
            }
        }
        return all;
    }

    private static long set(boolean[] lanes) {
        long set = 0L;
        for (int i = 0; i < 64; i++) {
            set |= lanes[i] ? 1L << i : 0L;
        }
        return set;
    }

    private static int size(boolean[] lanes) {
        int n = 0;
        for (boolean lane : lanes) {
            n += lane ? 1 : 0;
        }
        return n;
    }

    /** The lane on a way, or NONE. */
    private int neighbour(int lane, int way) {
        int col = lane % 8 + (way == 1 ? 1 : way == 3 ? -1 : 0);
        int line = lane / 8 + (way == 2 ? 1 : way == 0 ? -1 : 0);
        if (edge == 0 && (!in(col, 0, 7) || !in(line, 0, 7))) {
            return NONE;
        }
        return (line + 8) % 8 * 8 + (col + 8) % 8;
    }

    // ---- lanes, planes

    int lane(int lane, int v) {
        return isLane(lane) && isVar(v) ? x[lane][v] : refuse(BAD);
    }

    int put(int lane, int v, int to) {
        if (!isLane(lane) || !isVar(v) || !in(to, 0, 255)) {
            return refuse(BAD);
        }
        int was = x[lane][v];
        x[lane][v] = to;
        return was;
    }

    private boolean[] bits(int v, int k) {
        boolean[] lanes = new boolean[64];
        for (int i = 0; i < 64; i++) {
            lanes[i] = (x[i][v] & 1 << k) != 0;
        }
        return lanes;
    }

    long plane(int v, int k) {
        return isVar(v) && isVar(k) ? set(bits(v, k)) : 0L;
    }

    int lay(int v, int k, long set) {
        if (!isVar(v) || !isVar(k)) {
            return refuse(BAD);
        }
        boolean[] who = who();
        for (int i = 0; i < 64; i++) {
            if (who[i]) {
                x[i][v] = x[i][v] & ~(1 << k) | (int) (set >>> i & 1L) << k;
            }
        }
        return size(bits(v, k));
    }

    int fill(int v, int to) {
        if (!isVar(v) || !in(to, 0, 255)) {
            return refuse(BAD);
        }
        boolean[] who = who();
        for (int i = 0; i < 64; i++) {
            x[i][v] = who[i] ? to : x[i][v];
        }
        taken += 8;
        return 8;
    }

    int does(int op, int d, int a, int b) {
        if (!in(op, 0, 7) || !isVar(d) || !isVar(a) || !isVar(b)) {
            return refuse(BAD);
        }
        boolean[] who = who();
        for (int i = 0; i < 64; i++) {
            if (who[i]) {
                x[i][d] = pair("+-*&<=mM".charAt(op), x[i][a], x[i][b]);
            }
        }
        int cost = new int[] {16, 16, 136, 8, 9, 9, 17, 17}[op];
        taken += cost;
        return cost;
    }

    private static int pair(char op, int a, int b) {
        switch (op) {
            case '+': return (a + b) % 256;
            case '-': return (a - b + 256) % 256;
            case '*': return a * b % 256;
            case '&': return a & b;
            case '<': return a < b ? 1 : 0;
            case '=': return a == b ? 1 : 0;
            case 'm': return Math.min(a, b);
            default: return Math.max(a, b);
        }
    }

    int route(int d, int a, int way) {
        if (!isVar(d) || !isVar(a) || !in(way, 0, 3)) {
            return refuse(BAD);
        }
        come(d, a, way, who());
        taken += 8;
        return 8;
    }

    private void come(int d, int a, int way, boolean[] who) {
        int[] from = new int[64];
        for (int i = 0; i < 64; i++) {
            int n = neighbour(i, way);
            from[i] = n == NONE ? 0 : x[n][a];
        }
        for (int i = 0; i < 64; i++) {
            x[i][d] = who[i] ? from[i] : x[i][d];
        }
    }

    int edge(int v) {
        if (!in(v, 0, 1)) {
            return refuse(BAD);
        }
        int was = edge;
        edge = v;
        return was;
    }

    // ---- masks

    int push(int v, int k) {
        if (!isVar(v) || !isVar(k)) {
            return refuse(BAD);
        }
        if (masks.size() == 8) {
            return refuse(FULL);
        }
        masks.add(bits(v, k));
        return size(who());
    }

    int other() {
        if (masks.isEmpty()) {
            return refuse(STATE);
        }
        boolean[] turned = new boolean[64];
        for (int i = 0; i < 64; i++) {
            turned[i] = !masks.get(masks.size() - 1)[i];
        }
        masks.set(masks.size() - 1, turned);
        return size(who());
    }

    int pop() {
        if (masks.isEmpty()) {
            return refuse(STATE);
        }
        masks.remove(masks.size() - 1);
        return size(who());
    }

    long active() {
        return set(who());
    }

    // ---- all together

    int reduce(int what, int v) {
        if (!in(what, 0, 6) || !isVar(v)) {
            return refuse(BAD);
        }
        boolean[] who = who();
        int sum = 0;
        int most = NONE;
        int least = NONE;
        int any = 0;
        int all = 255;
        int some = 0;
        int firstMost = NONE;
        for (int i = 0; i < 64; i++) {
            if (who[i]) {
                int n = x[i][v];
                sum += n;
                firstMost = n > most ? i : firstMost;
                most = Math.max(most, n);
                least = least == NONE ? n : Math.min(least, n);
                any |= n;
                all &= n;
                some += n != 0 ? 1 : 0;
            }
        }
        return new int[] {sum, most, least, any, all, some, firstMost}[what];
    }

    int part(int v, int level, int i) {
        if (!isVar(v) || !in(level, 0, 6) || !in(i, 0, (64 >> level) - 1)) {
            return refuse(BAD);
        }
        boolean[] who = who();
        int sum = 0;
        for (int lane = 0; lane < 64; lane++) {
            sum += who[lane] && lane >> level == i ? x[lane][v] : 0;
        }
        return sum;
    }

    int rank(int lane, int v) {
        if (!isLane(lane) || !isVar(v)) {
            return refuse(BAD);
        }
        boolean[] who = who();
        int n = 0;
        for (int i = 0; i < 64; i++) {
            n += who[i] && x[i][v] < x[lane][v] ? 1 : 0;
        }
        return n;
    }

    long alike(int lane) {
        if (!isLane(lane)) {
            return 0L;
        }
        boolean[] lanes = new boolean[64];
        for (int i = 0; i < 64; i++) {
            lanes[i] = java.util.Arrays.equals(x[i], x[lane]);
        }
        return set(lanes);
    }

    private void visit(int lane, int v, boolean[] seen) {
        seen[lane] = true;
        for (int way = 0; way < 4; way++) {
            int n = neighbour(lane, way);
            if (n != NONE && !seen[n] && x[n][v] == x[lane][v]) {
                visit(n, v, seen);
            }
        }
    }

    long region(int lane, int v) {
        if (!isLane(lane) || !isVar(v)) {
            return 0L;
        }
        boolean[] seen = new boolean[64];
        visit(lane, v, seen);
        return set(seen);
    }

    int regions(int v) {
        if (!isVar(v)) {
            return refuse(BAD);
        }
        boolean[] seen = new boolean[64];
        int n = 0;
        for (int i = 0; i < 64; i++) {
            if (!seen[i]) {
                visit(i, v, seen);
                n++;
            }
        }
        return n;
    }

    int way(int from, int to, int v) {
        if (!isLane(from) || !isLane(to) || !isVar(v)) {
            return refuse(BAD);
        }
        if (x[from][v] == 0) {
            return NONE;
        }
        if (from == to) {
            return 0;
        }
        int[] far = new int[64];
        List<Integer> queue = new ArrayList<>();
        queue.add(from);
        for (int at = 0; at < queue.size(); at++) {
            int lane = queue.get(at);
            for (int way = 0; way < 4; way++) {
                int n = neighbour(lane, way);
                if (n != NONE && n != from && far[n] == 0 && x[n][v] != 0) {
                    far[n] = far[lane] + 1;
                    queue.add(n);
                }
            }
        }
        return far[to] == 0 ? NONE : far[to];
    }

    // ---- programs

    int feed(long bytes, int n) {
        if (!in(n, 1, 8)) {
            return refuse(BAD);
        }
        if (tapeLength + n > 160) {
            return refuse(FULL);
        }
        for (int i = 0; i < n; i++) {
            tape[tapeLength++] = (int) (bytes & 255L);
            bytes >>= 8;
        }
        return tapeLength;
    }

    int wipe() {
        int had = tapeLength;
        tapeLength = 0;
        return had;
    }

    int text() {
        int answer = PlainScanner.scan(tape, tapeLength);
        if (answer > 0) {
            StringBuilder text = new StringBuilder();
            for (int i = 0; i < tapeLength; i++) {
                text.append((char) tape[i]);
            }
            program = text.toString();
            deeds = answer;
        }
        tapeLength = 0;
        return answer;
    }

    /** Where one of the signs stands outside all brackets: the first or the last, or NONE. */
    private static int find(String text, String signs, boolean last) {
        int depth = 0;
        int found = NONE;
        for (int i = 0; i < text.length(); i++) {
            char sign = text.charAt(i);
            depth += "([{".indexOf(sign) >= 0 ? 1 : ")]}".indexOf(sign) >= 0 ? -1 : 0;
            if (depth == 0 && signs.indexOf(sign) >= 0 && (last || found == NONE)) {
                found = i;
            }
        }
        return found;
    }

    private int[] work(String e) {
        for (String signs : new String[] {"<=", "+-", "*&"}) {
            int at = find(e, signs, true);
            if (at != NONE) {
                int[] left = work(e.substring(0, at));
                int[] right = work(e.substring(at + 1));
                for (int i = 0; i < 64; i++) {
                    left[i] = pair(e.charAt(at), left[i], right[i]);
                }
                return left;
            }
        }
        char sign = e.charAt(0);
        if (sign == '(') {
            return work(e.substring(1, e.length() - 1));
        }
        int[] all = sign == '~' ? work(e.substring(1)) : new int[64];
        for (int i = 0; i < 64; i++) {
            if (sign == '~') {
                all[i] = 255 - all[i];
            } else if (sign == '#') {
                all[i] = i;
            } else {
                all[i] = sign >= 'a' ? x[i][sign - 'a'] : Integer.parseInt(e);
            }
        }
        return all;
    }

    private static int costOf(String e) {
        int cost = 0;
        boolean digit = false;
        for (int i = 0; i < e.length(); i++) {
            char sign = e.charAt(i);
            boolean digitNow = sign >= '0' && sign <= '9';
            cost += digitNow && !digit ? 8 : 0;
            digit = digitNow;
            cost += sign == '#' ? 6 : sign == '~' || sign == '&' ? 8 : sign == '*' ? 136 : 0;
            cost += sign == '+' || sign == '-' ? 16 : sign == '<' || sign == '=' ? 9 : 0;
        }
        return cost;
    }

    private static boolean[] split(int[] e, boolean[] who, boolean zero) {
        boolean[] part = new boolean[64];
        for (int i = 0; i < 64; i++) {
            part[i] = who[i] && (e[i] == 0) == zero;
        }
        return part;
    }

    private int go(String p, boolean[] who) {
        if (size(who) == 0) {
            return 0;
        }
        int cut = find(p, ";", false);
        if (cut != NONE) {
            int cost = go(p.substring(0, cut), who);
            return cost + go(p.substring(cut + 1), who);
        }
        if (p.charAt(0) == '[') {
            return choose(p.substring(1, p.length() - 1), who);
        }
        if (p.charAt(0) == '{') {
            return turn(p.substring(1, p.length() - 1), who);
        }
        int v = p.charAt(0) - 'a';
        if (p.charAt(1) == '@') {
            come(v, p.charAt(3) - 'a', "nesw".indexOf(p.charAt(2)), who);
            return 8;
        }
        int[] e = work(p.substring(2));
        for (int i = 0; i < 64; i++) {
            x[i][v] = who[i] ? e[i] : x[i][v];
        }
        return costOf(p.substring(2)) + 8;
    }

    private int choose(String inside, boolean[] who) {
        int colon = inside.indexOf(':');
        String e = inside.substring(0, colon);
        String both = inside.substring(colon + 1);
        int bar = find(both, "|", false);
        int[] told = work(e);
        int cost = costOf(e) + 2;
        cost += go(bar == NONE ? both : both.substring(0, bar), split(told, who, false));
        if (bar != NONE) {
            cost += go(both.substring(bar + 1), split(told, who, true));
        }
        return cost;
    }

    private int turn(String inside, boolean[] who) {
        int colon = inside.indexOf(':');
        String e = inside.substring(0, colon);
        int cost = 0;
        boolean[] left = who;
        for (int i = 0; i < 20 && size(left) > 0; i++) {
            left = split(work(e), left, false);
            cost += costOf(e) + 1 + go(inside.substring(colon + 1), left);
        }
        return cost;
    }

    private int goOn(int n) {
        int cost = 0;
        boolean[] who = who();
        for (int i = 0; i < n; i++) {
            cost += go(program, who);
        }
        return cost;
    }

    private int[][] copy() {
        int[][] all = new int[64][];
        for (int i = 0; i < 64; i++) {
            all[i] = x[i].clone();
        }
        return all;
    }

    int run(int n) {
        if (!in(n, 1, 30)) {
            return refuse(BAD);
        }
        if (program == null) {
            return refuse(STATE);
        }
        int cost = goOn(n);
        taken += cost;
        return cost;
    }

    int then(int n, int lane, int v) {
        if (!in(n, 0, 30) || !isLane(lane) || !isVar(v)) {
            return refuse(BAD);
        }
        if (program == null) {
            return refuse(STATE);
        }
        int[][] was = copy();
        goOn(n);
        int answer = x[lane][v];
        x = was;
        return answer;
    }

    int steps(int n) {
        if (!in(n, 0, 30)) {
            return refuse(BAD);
        }
        if (program == null) {
            return refuse(STATE);
        }
        int[][] was = copy();
        int answer = goOn(n);
        x = was;
        return answer;
    }

    private static long differ(int[][] one, int[][] two) {
        boolean[] lanes = new boolean[64];
        for (int i = 0; i < 64; i++) {
            lanes[i] = !java.util.Arrays.equals(one[i], two[i]);
        }
        return set(lanes);
    }

    long changed(int n) {
        if (!in(n, 0, 30) || program == null) {
            return 0L;
        }
        int[][] was = copy();
        goOn(n);
        long answer = differ(x, was);
        x = was;
        return answer;
    }

    int settles() {
        if (program == null) {
            return refuse(STATE);
        }
        int[][] was = copy();
        int answer = NONE;
        for (int n = 0; n <= 30 && answer == NONE; n++) {
            int[][] ahead = copy();
            goOn(1);
            answer = differ(x, ahead) == 0L ? n : NONE;
        }
        x = was;
        return answer;
    }

    int first(int lane, int v, int to) {
        if (!isLane(lane) || !isVar(v) || !in(to, 0, 255)) {
            return refuse(BAD);
        }
        if (program == null) {
            return refuse(STATE);
        }
        int[][] was = copy();
        int answer = NONE;
        for (int n = 0; n <= 30 && answer == NONE; n++) {
            answer = x[lane][v] == to ? n : NONE;
            goOn(1);
        }
        x = was;
        return answer;
    }

    int again() {
        if (program == null) {
            return refuse(STATE);
        }
        int[][] was = copy();
        int answer = NONE;
        for (int n = 1; n <= 30 && answer == NONE; n++) {
            goOn(1);
            answer = differ(x, was) == 0L ? n : NONE;
        }
        x = was;
        return answer;
    }

    // ---- shelves

    int row(int k, int sort, int n) {
        if (!in(k, 0, 3) || !in(sort, -1, 3) || sort >= 0 && n > 64) {
            return refuse(BAD);
        }
        if (sort >= 0 && n < 0) {
            return refuse(PLACE);
        }
        shelves[k] = sort < 0 ? null : new long[n];
        sorts[k] = sort;
        return 1;
    }

    private void set(int k, int i, long v) {
        int away = 64 - (8 << sorts[k]);
        shelves[k][i] = v << away >> away;
    }

    int mark(int k, int i, long v) {
        if (!in(k, 0, 3)) {
            return refuse(BAD);
        }
        if (shelves[k] == null) {
            return refuse(EMPTY);
        }
        if (!in(i, 0, shelves[k].length - 1)) {
            return refuse(PLACE);
        }
        set(k, i, v);
        return 1;
    }

    long at(int k, int i) {
        return in(k, 0, 3) && shelves[k] != null && in(i, 0, shelves[k].length - 1) ? shelves[k][i] : 0L;
    }

    int load(int v, int k) {
        if (!isVar(v) || !in(k, 0, 3)) {
            return refuse(BAD);
        }
        if (shelves[k] == null) {
            return refuse(EMPTY);
        }
        boolean[] who = who();
        int n = 0;
        for (int i = 0; i < shelves[k].length; i++) {
            if (who[i]) {
                x[i][v] = (int) (shelves[k][i] & 255L);
                n++;
            }
        }
        return n;
    }

    int store(int v, int k) {
        if (!isVar(v) || !in(k, 0, 3)) {
            return refuse(BAD);
        }
        if (shelves[k] == null) {
            return refuse(EMPTY);
        }
        for (int i = 0; i < shelves[k].length; i++) {
            set(k, i, x[i][v]);
        }
        return shelves[k].length;
    }

    int judge(int v, int k) {
        if (!isVar(v) || !in(k, 0, 3)) {
            return refuse(BAD);
        }
        if (shelves[k] == null) {
            return refuse(EMPTY);
        }
        for (int i = 0; i < shelves[k].length; i++) {
            if (shelves[k][i] != x[i][v]) {
                return i;
            }
        }
        return NONE;
    }

    // ---- images

    private void keep(PlainModel from) {
        x = from.copy();
        masks = new ArrayList<>(from.masks);
        edge = from.edge;
        taken = from.taken;
        program = from.program;
        deeds = from.deeds;
    }

    int image() {
        kept = new PlainModel();
        kept.keep(this);
        return taken;
    }

    int back() {
        if (kept == null) {
            return refuse(STATE);
        }
        keep(kept);
        return taken;
    }

    int count(int what) {
        if (!in(what, 0, 4)) {
            return refuse(BAD);
        }
        return new int[] {taken, masks.size(), tapeLength, program == null ? 0 : deeds, edge}[what];
    }

    int refused(int which) {
        return in(which, 0, 4) ? refusals[which] : refuse(BAD);
    }
}
