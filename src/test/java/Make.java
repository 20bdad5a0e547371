/** Makes objects for tests, and feeds them texts. */
final class Make {
    private Make() {
    }

    static int feedAll(LaneSlices x, String text) {
        int length = x.count(2);
        for (int i = 0; i < text.length(); i += 8) {
            int n = Math.min(8, text.length() - i);
            long bytes = 0L;
            for (int j = 0; j < n; j++) {
                bytes |= (text.charAt(i + j) & 255L) << (8 * j);
            }
            length = x.feed(bytes, n);
        }
        return length;
    }

    static int read(LaneSlices x, String text) {
        feedAll(x, text);
        return x.text();
    }

    /** What text() answers on a new object. */
    static int textOf(String text) {
        return read(new LaneSlices(), text);
    }

    static LaneSlices with(String text) {
        LaneSlices x = new LaneSlices();
        int deeds = read(x, text);
        if (deeds <= 0) {
            // Exit code 1, too: a test that goes on without its program would tell nothing.
            throw new IllegalStateException(text + " is no program: " + deeds);
        }
        return x;
    }

    /** Variable a is the lane's number. */
    static LaneSlices numbered() {
        LaneSlices x = new LaneSlices();
        for (int lane = 0; lane < 64; lane++) {
            x.put(lane, 0, lane);
        }
        return x;
    }

    /** Variable h, which is filled with the bits of a set of lanes, is pushed: those lanes are active. */
    static void only(LaneSlices x, long set) {
        x.lay(7, 0, set);
        x.push(7, 0);
    }

    static int refusals(LaneSlices x) {
        int all = 0;
        for (int which = 0; which < 5; which++) {
            all += x.refused(which);
        }
        return all;
    }
}
