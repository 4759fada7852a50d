/**
 * Every call with arguments at and beyond all edges, in three states: it is refused where the document says so, and
 * there alone; it never throws; a refused one changes nothing that digest() shows.
 */
public final class RefusalsTest {
    private static final int LEAST = Integer.MIN_VALUE, MOST = Integer.MAX_VALUE;
    private static final long[] EDGES = {LEAST, LEAST + 1, LEAST + 10, -104, -101, -10, -9, -2, -1, 0, 1, 2, 3, 4, 5, 6, 7, 8, 9, 10, 11, 12, 13,
        15, 16, 17, 31, 32, 33, 63, 64, 98, 99, 100, 255, 256, 4095, 4096, MOST - 1, MOST};
    private static final long[] FEW_EDGES = {LEAST, -1, 0, 1, 2, 3, 4, 5, 6, 7, 8, 9, 10, 11, 12, 13, 99, 100, MOST};
    private static final long[] FEWEST_EDGES = {LEAST, -1, 0, 7, 8, 99, 100, MOST};
    private static final long[] PLATES = {Long.MIN_VALUE, LEAST, -2, -1, 0, 1, 99, 100, 9999999999999998L, Help.LAST, Help.LAST + 1, Long.MAX_VALUE};
    /** No refusal is due. */
    private static final long GOES = 0L;
    private static final long UNKNOWN = Help.UNKNOWN, OUTSIDE = Help.OUTSIDE, STATE = Help.STATE, FULL = Help.FULL;
    private static int wrong = 0;
    private static int looked = 0;

    private interface Call {
        long of(LeftStates x, long[] a);
    }

    /** The refusal that is due, told from what count() says of the object; GOES where there is none. */
    private interface Due {
        long of(int[] count, long[] a);
    }

    public static void main(String[] args) {
        program();
        texts();
        plates();
        found();
        comesTo();
        orders();
        System.out.println(looked + " looks, " + wrong + " wrong");
        if (wrong != 0) {
            System.exit(1);
        }
    }

    private static boolean in(long v, long least, long greatest) {
        return v >= least && v <= greatest;
    }

    /** All ways to take one argument from each of these rows. */
    private static void sweep(String name, Due due, Call call, long[]... rows) {
        int ways = 1;
        for (long[] row : rows) {
            ways *= row.length;
        }
        for (State state : new State[] {State.NEW, State.MIDDLE, State.CROWDED}) {
            LeftStates seen = state.made();
            int[] count = new int[7];
            for (int what = 0; what < 7; what++) {
                count[what] = seen.count(what);
            }
            long digest = seen.digest();
            for (int way = 0; way < ways; way++) {
                long[] a = new long[rows.length];
                int left = way;
                for (int i = 0; i < rows.length; i++) {
                    a[i] = rows[i][left % rows[i].length];
                    left /= rows[i].length;
                }
                look(name, state, digest, due.of(count, a), call, a);
            }
        }
    }

    private static void look(String name, State state, long digest, long due, Call call, long[] a) {
        looked++;
        LeftStates x = state.made();
        StringBuilder told = new StringBuilder(name + " of " + state.name + " with");
        for (long v : a) {
            told.append(' ').append(v);
        }
        try {
            long got = call.of(x, a);
            boolean is = due == GOES ? got >= -1 : got == due;
            if (!is) {
                wrong++;
                System.out.println(told + " answered " + got + (due == GOES ? "" : ", due is " + due));
            }
            if (due != GOES && x.digest() != digest) {
                wrong++;
                System.out.println(told + " was refused and changed something");
            }
        } catch (RuntimeException e) {
            wrong++;
            System.out.println(told + " threw " + e);
        }
    }

    private static void program() {
        sweep("sector", (c, a) -> !in(a[0], 0, 7) ? UNKNOWN : !in(a[1], 0, 99) ? OUTSIDE : GOES,
            (x, a) -> x.sector((int) a[0], (int) a[1]), EDGES, EDGES);
        sweep("write", (c, a) -> !in(a[0], 0, 7) ? UNKNOWN : !in(a[1], 0, 99) ? OUTSIDE : c[0] == 12 ? FULL : GOES,
            (x, a) -> x.write((int) a[0], (int) a[1]), EDGES, EDGES);
        sweep("whole", (c, a) -> !in(a[0], 0, 7) || !in(a[2], 0, 7) || a[0] == a[2] ? UNKNOWN
            : !in(a[1], 0, 99) || !in(a[3], 0, 99) ? OUTSIDE : c[0] == 12 ? FULL : GOES,
            (x, a) -> x.whole((int) a[0], (int) a[1], (int) a[2], (int) a[3]), FEWEST_EDGES, FEWEST_EDGES, FEWEST_EDGES, FEWEST_EDGES);
        sweep("barrier", (c, a) -> c[0] == 12 ? FULL : GOES, (x, a) -> x.barrier());
        sweep("flush", (c, a) -> c[0] == 12 ? FULL : GOES, (x, a) -> x.flush());
        sweep("tell", (c, a) -> !in(a[0], 0, c[1] - 1) ? UNKNOWN : c[0] == 12 ? FULL : GOES, (x, a) -> x.tell((int) a[0]), EDGES);
        sweep("undo", (c, a) -> c[0] == 0 ? STATE : GOES, (x, a) -> x.undo());
        sweep("swap", (c, a) -> !in(a[0], 0, c[0] - 1) || !in(a[1], 0, c[0] - 1) ? UNKNOWN : GOES,
            (x, a) -> x.swap((int) a[0], (int) a[1]), EDGES, EDGES);
        sweep("act", (c, a) -> !in(a[0], 0, c[0] - 1) ? UNKNOWN : !in(a[1], 0, 4) ? OUTSIDE : GOES,
            (x, a) -> x.act((int) a[0], (int) a[1]), EDGES, EDGES);
        sweep("end", (c, a) -> GOES, (x, a) -> x.end());
    }

    private static void texts() {
        sweep("good", (c, a) -> !in(a[0], 0, 1) ? OUTSIDE : GOES, (x, a) -> x.good((int) a[0]), EDGES);
        sweep("always", (c, a) -> !in(a[0], 0, c[1] - 1) ? UNKNOWN : GOES, (x, a) -> x.always((int) a[0], a[1] != 0), EDGES, new long[] {0, 1});
        sweep("holds", (c, a) -> !in(a[0], 0, c[1] - 1) ? UNKNOWN : !in(a[1], 0, Help.LAST) ? OUTSIDE : GOES,
            (x, a) -> x.holds((int) a[0], a[1]), EDGES, PLATES);
        long[] bytes = {0, 1, 97, 126, 127, 128, 255};
        // one byte, the next one and the last one: a zero ahead of another byte, a byte above 126, too many letters
        sweep("letters", (c, a) -> a[0] > 126 || a[1] > 126 || a[2] > 126 || a[1] > 0 && a[0] == 0 || a[2] > 0 ? OUTSIDE
            : c[3] + (a[0] > 0 ? 1 : 0) + (a[1] > 0 ? 1 : 0) > 60 ? FULL : GOES,
            (x, a) -> x.letters(a[0] | a[1] << 8 | a[2] << 56), bytes, bytes, bytes);
    }

    private static void plates() {
        sweep("heal", (c, a) -> !in(a[0], 0, Help.LAST) ? -2 : GOES, (x, a) -> x.heal(a[0]), PLATES);
        sweep("cut", (c, a) -> !in(a[0], 0, Help.LAST) ? -2 : !in(a[1], 0, c[2]) ? -1 : GOES, (x, a) -> x.cut(a[0], (int) a[1]), PLATES, EDGES);
        sweep("steady", (c, a) -> !in(a[0], 0, Help.LAST) ? OUTSIDE : GOES, (x, a) -> x.steady(a[0]), PLATES);
    }

    private static void found() {
        sweep("found", (c, a) -> !in(a[0], 0, c[0]) ? OUTSIDE : GOES, (x, a) -> x.found((int) a[0]), EDGES);
        sweep("plate", (c, a) -> !in(a[0], 0, c[0]) ? -2 : GOES, (x, a) -> x.plate((int) a[0], (int) a[1]), EDGES, EDGES);
        sweep("kept", (c, a) -> !in(a[0], 0, c[1] - 1) ? UNKNOWN : !in(a[1], 0, c[0]) || !in(a[2], 0, 1) ? OUTSIDE : GOES,
            (x, a) -> x.kept((int) a[0], (int) a[1], (int) a[2]), FEW_EDGES, FEW_EDGES, FEW_EDGES);
        sweep("broken", (c, a) -> !in(a[0], 0, c[0]) ? OUTSIDE : GOES, (x, a) -> x.broken((int) a[0]), EDGES);
        sweep("bounds", (c, a) -> !in(a[0], 0, 7) ? UNKNOWN : !in(a[1], 0, c[0]) || !in(a[2], 0, 1) ? OUTSIDE : GOES,
            (x, a) -> x.bounds((int) a[0], (int) a[1], (int) a[2]), FEW_EDGES, FEW_EDGES, FEW_EDGES);
    }

    private static void comesTo() {
        sweep("safe", (c, a) -> GOES, (x, a) -> x.safe());
        sweep("shortest", (c, a) -> !in(a[0], 0, 3) ? -2 : GOES, (x, a) -> x.shortest((int) a[0]), EDGES);
        sweep("cost", (c, a) -> !in(a[0], 0, 1) ? UNKNOWN : !in(a[1], 1, a[0] == 0 ? 9 : 99) ? OUTSIDE : GOES,
            (x, a) -> x.cost((int) a[0], (int) a[1]), EDGES, EDGES);
        sweep("fewest", (c, a) -> !in(a[0], 0, 1) && !in(a[0], 10, 16) ? OUTSIDE : c[0] > 8 || c[6] >= 12 ? STATE : GOES,
            (x, a) -> x.fewest((int) a[0]), EDGES);
        sweep("needless", (c, a) -> GOES, (x, a) -> x.needless());
        sweep("count", (c, a) -> !in(a[0], 0, 6) ? OUTSIDE : GOES, (x, a) -> x.count((int) a[0]), EDGES);
    }

    /** The epochs of the middling object and of the full one, as a letter for each act; a dot is no WRITE, an x lies ahead of a FLUSH. */
    private static void orders() {
        sweep("order", (c, a) -> {
            String epochs = c[0] == 6 ? "aa.bb." : c[0] == 12 ? "x.x..bb..ccc" : "";
            boolean named = in(a[0], 0, c[1] - 1) && in(a[1], 0, c[0] - 1) && in(a[2], 0, c[0] - 1) && a[1] != a[2];
            if (!named || epochs.charAt((int) a[1]) == '.' || epochs.charAt((int) a[2]) == '.') {
                return UNKNOWN;
            }
            return epochs.charAt((int) a[1]) != epochs.charAt((int) a[2]) || epochs.charAt((int) a[1]) == 'x' ? STATE : GOES;
        }, (x, a) -> x.order((int) a[0], (int) a[1], (int) a[2]), FEW_EDGES, FEW_EDGES, FEW_EDGES);
    }
}
