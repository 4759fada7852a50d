/** Promises 1 to 11, sentence by sentence: a new object, the plate and the program. */
public final class ProgramTest {
    private static final int NONE = Help.NONE, UNKNOWN = Help.UNKNOWN, OUTSIDE = Help.OUTSIDE, STATE = Help.STATE, FULL = Help.FULL;
    private static final int LEAST = Integer.MIN_VALUE, MOST = Integer.MAX_VALUE;
    private static final Sentences s = new Sentences();

    public static void main(String[] args) {
        newObject();
        sector();
        write();
        whole();
        barrier();
        flush();
        tell();
        undo();
        swap();
        act();
        end();
        s.end();
    }

    private static void newObject() {
        s.promise(1);
        s.says("No ACTS");
        LeftStates x = new LeftStates();
        s.due("count(0)", x.count(0), 0);
        s.due("act(0, 0)", x.act(0, 0), UNKNOWN);
        s.due("undo()", x.undo(), STATE);
        s.due("found(0)", x.found(0), 1);
        s.due("found(1)", x.found(1), OUTSIDE);
        s.due("plate(0, 0)", x.plate(0, 0), 0);
        s.due("end()", x.end(), 0);
        s.due("safe()", x.safe(), 1);
        s.due("needless()", x.needless(), 0);
        s.says("no RULES");
        s.due("count(1)", x.count(1), 0);
        s.due("tell(0)", x.tell(0), UNKNOWN);
        s.due("always(0, true)", x.always(0, true), UNKNOWN);
        s.due("holds(0, 0)", x.holds(0, 0L), UNKNOWN);
        for (int what = 2; what <= 6; what++) {
            s.due("count(" + what + ")", x.count(what), 0);
        }
        s.due("an object of its own", new LeftStates().write(0, 1) + new LeftStates().count(0), 0);
    }

    private static void sector() {
        s.promise(2);
        s.says("A SECTOR of the PLATE AT FIRST becomes v: what it was");
        LeftStates x = new LeftStates();
        for (int n = 0; n < 8; n++) {
            s.due("sector(" + n + ", 99)", x.sector(n, 99), 0);
            s.due("sector(" + n + ", 0)", x.sector(n, 0), 99);
            s.due("sector(" + n + ", n + 1)", x.sector(n, n + 1), 0);
        }
        s.due("plate(0, 0)", x.plate(0, 0), 807060504030201L);
        s.due("end()", x.end(), 807060504030201L);
        x.write(0, 5);
        s.due("found(1)", x.found(1), 2);
        s.due("sector(0, 5)", x.sector(0, 5), 1);
        s.due("found(1), when the write is no news", x.found(1), 1);
        LeftStates y = Help.keeping("a<1");
        s.due("safe()", y.safe(), 1);
        y.sector(0, 1);
        s.due("safe() behind sector(0, 1)", y.safe(), 0);
        s.says("UNKNOWN");
        for (int n : new int[] {-1, 8, 32, 64, LEAST, MOST}) {
            s.refused("sector(" + n + ", 1)", UNKNOWN, z -> z.sector(n, 1));
            s.refused("sector(" + n + ", 100)", UNKNOWN, z -> z.sector(n, 100));
        }
        s.says("OUTSIDE");
        for (int v : new int[] {-1, 100, 256, LEAST, MOST}) {
            s.refused("sector(0, " + v + ")", OUTSIDE, z -> z.sector(0, v));
            s.refused("sector(7, " + v + ")", OUTSIDE, z -> z.sector(7, v));
        }
    }

    private static void write() {
        s.promise(3);
        s.says("A WRITE comes behind the other ACTS: its number");
        LeftStates x = new LeftStates();
        s.due("write(0, 0)", x.write(0, 0), 0);
        s.due("write(7, 99)", x.write(7, 99), 1);
        for (int n = 2; n < 12; n++) {
            s.due("write(1, " + n + ")", x.write(1, n), n);
        }
        s.due("end()", x.end(), 9900000000001100L);
        s.due("act(11, 2)", x.act(11, 2), 11);
        s.says("UNKNOWN: s");
        for (int n : new int[] {-1, 8, LEAST, MOST}) {
            s.refused("write(" + n + ", 0)", UNKNOWN, z -> z.write(n, 0));
            s.refused("write(" + n + ", -1)", UNKNOWN, z -> z.write(n, -1));
        }
        s.says("OUTSIDE: v");
        for (int v : new int[] {-1, 100, LEAST, MOST}) {
            s.refused("write(0, " + v + ")", OUTSIDE, z -> z.write(0, v));
            s.refused("write(7, " + v + ")", OUTSIDE, z -> z.write(7, v));
        }
        s.says("FULL");
        s.refused("write(0, 0)", FULL, z -> z.write(0, 0), State.CROWDED);
        s.refused("write(7, 99)", FULL, z -> z.write(7, 99), State.CROWDED);
    }

    private static void whole() {
        s.promise(4);
        s.says("A WHOLE: its number");
        LeftStates x = new LeftStates();
        s.due("whole(0, 0, 7, 99)", x.whole(0, 0, 7, 99), 0);
        s.due("whole(7, 0, 0, 99)", x.whole(7, 0, 0, 99), 1);
        for (int n = 2; n < 12; n++) {
            s.due("whole", x.whole(n % 8, n, (n + 1) % 8, n), n);
        }
        LeftStates y = new LeftStates();
        y.whole(0, 1, 7, 99);
        s.due("found(1): both or none", y.found(1), 2);
        s.due("plate(1, 1)", y.plate(1, 1), 9900000000000001L);
        s.says("UNKNOWN: s, t");
        for (int n : new int[] {-1, 8, LEAST, MOST}) {
            s.refused("whole(" + n + ", 1, 2, 3)", UNKNOWN, z -> z.whole(n, 1, 2, 3));
            s.refused("whole(2, 1, " + n + ", 3)", UNKNOWN, z -> z.whole(2, 1, n, 3));
            s.refused("whole(2, 100, " + n + ", -1)", UNKNOWN, z -> z.whole(2, 100, n, -1));
        }
        s.says("or they are the same");
        for (int n = 0; n < 8; n++) {
            int both = n;
            s.refused("whole(" + n + ", 1, " + n + ", 1)", UNKNOWN, z -> z.whole(both, 1, both, 1));
        }
        s.refused("whole(2, 1, 2, 100)", UNKNOWN, z -> z.whole(2, 1, 2, 100));
        s.says("OUTSIDE: v, w");
        for (int v : new int[] {-1, 100, LEAST, MOST}) {
            s.refused("whole(0, " + v + ", 7, 1)", OUTSIDE, z -> z.whole(0, v, 7, 1));
            s.refused("whole(0, 1, 7, " + v + ")", OUTSIDE, z -> z.whole(0, 1, 7, v));
        }
        s.says("FULL");
        s.refused("whole(0, 1, 1, 1)", FULL, z -> z.whole(0, 1, 1, 1), State.CROWDED);
    }

    private static void barrier() {
        s.promise(5);
        s.says("A BARRIER: its number");
        LeftStates x = new LeftStates();
        for (int n = 0; n < 12; n++) {
            s.due("barrier()", x.barrier(), n);
            s.due("act(" + n + ", 0)", x.act(n, 0), 2);
        }
        s.says("FULL");
        s.due("barrier()", x.barrier(), FULL);
        s.refused("barrier()", FULL, LeftStates::barrier, State.CROWDED);
    }

    private static void flush() {
        s.promise(6);
        s.says("A FLUSH: its number");
        LeftStates x = new LeftStates();
        for (int n = 0; n < 12; n++) {
            s.due("flush()", x.flush(), n);
            s.due("act(" + n + ", 0)", x.act(n, 0), 3);
        }
        s.says("FULL");
        s.due("flush()", x.flush(), FULL);
        s.refused("flush()", FULL, LeftStates::flush, State.CROWDED);
    }

    private static void tell() {
        s.promise(7);
        s.says("A TELL: its number");
        LeftStates x = Help.withRules("a=0", "a=1", "a=2", "a=3", "a=4", "a=5");
        for (int n = 0; n < 12; n++) {
            s.due("tell(" + n % 6 + ")", x.tell(n % 6), n);
            s.due("act(" + n + ", 1)", x.act(n, 1), n % 6);
        }
        s.due("broken(1)", x.broken(1), 0);
        s.due("broken(2)", x.broken(2), 1);
        s.says("UNKNOWN: rule");
        s.refused("tell(0)", UNKNOWN, z -> z.tell(0), State.NEW);
        s.refused("tell(2)", UNKNOWN, z -> z.tell(2), State.MIDDLE);
        for (int r : new int[] {-1, 6, LEAST, MOST}) {
            s.refused("tell(" + r + ")", UNKNOWN, z -> z.tell(r));
        }
        s.says("FULL");
        s.refused("tell(0)", FULL, z -> z.tell(0), State.CROWDED);
        s.refused("tell(5)", FULL, z -> z.tell(5), State.CROWDED);
    }

    private static void undo() {
        s.promise(8);
        s.says("The last ACT goes: how many are left");
        LeftStates x = State.CROWDED.made();
        for (int left = 11; left >= 0; left--) {
            s.due("undo()", x.undo(), left);
            s.due("count(0)", x.count(0), left);
            s.due("act(" + left + ", 0)", x.act(left, 0), UNKNOWN);
        }
        LeftStates y = new LeftStates();
        y.write(0, 1);
        y.write(0, 2);
        s.due("undo()", y.undo(), 1);
        s.due("end()", y.end(), 1);
        s.due("found(1)", y.found(1), 2);
        s.due("write(1, 3)", y.write(1, 3), 1);
        s.due("end()", y.end(), 301);
        s.due("act(1, 1)", y.act(1, 1), 1);
        s.says("STATE: there is none");
        s.due("undo() when all are gone", x.undo(), STATE);
        s.refused("undo()", STATE, LeftStates::undo, State.NEW,
            new State("one whose acts are gone", () -> {
                LeftStates z = State.MIDDLE.made();
                while (z.count(0) > 0) {
                    z.undo();
                }
                return z;
            }));
    }

    private static void swap() {
        s.promise(9);
        s.says("Two ACTS change places: 1");
        LeftStates x = new LeftStates();
        x.write(0, 1);
        x.whole(0, 2, 3, 4);
        x.barrier();
        s.due("end()", x.end(), 4000002L);
        s.due("swap(0, 1)", x.swap(0, 1), 1);
        s.due("end()", x.end(), 4000001L);
        s.due("act(0, 4)", x.act(0, 4), 4);
        s.due("act(1, 4)", x.act(1, 4), NONE);
        s.due("found(3)", x.found(3), 4);
        s.due("swap(2, 1)", x.swap(2, 1), 1);
        s.due("act(1, 0)", x.act(1, 0), 2);
        s.due("act(2, 0)", x.act(2, 0), 0);
        s.due("found(3) with the barrier between", x.found(3), 3);
        LeftStates y = State.CROWDED.made();
        s.due("swap(0, 11)", y.swap(0, 11), 1);
        s.due("act(0, 2)", y.act(0, 2), 9);
        s.due("act(11, 2)", y.act(11, 2), 1);
        long before = y.digest();
        s.due("swap(11, 11)", y.swap(11, 11), 1);
        s.due("digest() behind swap(11, 11)", y.digest(), before);
        s.says("UNKNOWN: i, j");
        s.refused("swap(0, 0)", UNKNOWN, z -> z.swap(0, 0), State.NEW);
        s.refused("swap(5, 6)", UNKNOWN, z -> z.swap(5, 6), State.MIDDLE);
        s.refused("swap(6, 5)", UNKNOWN, z -> z.swap(6, 5), State.MIDDLE);
        s.refused("swap(6, 6)", UNKNOWN, z -> z.swap(6, 6), State.MIDDLE);
        for (int i : new int[] {-1, 12, LEAST, MOST}) {
            s.refused("swap(" + i + ", 0)", UNKNOWN, z -> z.swap(i, 0));
            s.refused("swap(0, " + i + ")", UNKNOWN, z -> z.swap(0, i));
        }
    }

    private static void act() {
        s.promise(10);
        s.says("Of an ACT: what = 0 its sort (0 WRITE, 1 WHOLE, 2 BARRIER, 3 FLUSH, 4 TELL), 1 its SECTOR (or RULE), 2 its number, "
            + "3 its other SECTOR, 4 its other number (NONE: it has none such)");
        LeftStates x = Help.withRules("a=0", "b=0");
        x.write(3, 33);
        x.whole(4, 44, 5, 55);
        x.barrier();
        x.flush();
        x.tell(1);
        x.write(0, 0);
        x.whole(7, 0, 0, 99);
        int[][] told = {{0, 3, 33, -1, -1}, {1, 4, 44, 5, 55}, {2, -1, -1, -1, -1}, {3, -1, -1, -1, -1}, {4, 1, -1, -1, -1},
            {0, 0, 0, -1, -1}, {1, 7, 0, 0, 99}};
        for (int i = 0; i < told.length; i++) {
            for (int what = 0; what < 5; what++) {
                s.due("act(" + i + ", " + what + ")", x.act(i, what), told[i][what]);
            }
        }
        for (int n = 0; n < 6; n++) {
            x.undo();
        }
        x.barrier();
        s.due("act(1, 4), where a WHOLE was", x.act(1, 4), NONE);
        s.says("UNKNOWN");
        s.refused("act(0, 0)", UNKNOWN, z -> z.act(0, 0), State.NEW);
        s.refused("act(6, 0)", UNKNOWN, z -> z.act(6, 0), State.MIDDLE);
        for (int i : new int[] {-1, 12, LEAST, MOST}) {
            s.refused("act(" + i + ", 0)", UNKNOWN, z -> z.act(i, 0));
            s.refused("act(" + i + ", 5)", UNKNOWN, z -> z.act(i, 5));
        }
        s.says("OUTSIDE");
        for (int what : new int[] {-1, 5, LEAST, MOST}) {
            s.refused("act(0, " + what + ")", OUTSIDE, z -> z.act(0, what), State.MIDDLE, State.CROWDED);
            s.refused("act(5, " + what + ")", OUTSIDE, z -> z.act(5, what), State.MIDDLE, State.CROWDED);
        }
    }

    private static void end() {
        s.promise(11);
        s.says("THE END, as a number of base 100, SECTOR h's highest");
        LeftStates x = new LeftStates();
        s.due("end() of nothing", x.end(), 0);
        x.sector(6, 12);
        s.due("end() without acts", x.end(), 12000000000000L);
        x.write(7, 99);
        x.barrier();
        x.whole(0, 1, 6, 2);
        x.write(0, 5);
        s.due("end()", x.end(), 9902000000000005L);
        LeftStates y = new LeftStates();
        for (int n = 0; n < 8; n += 2) {
            y.whole(n, 99, n + 1, 99);
        }
        s.due("the greatest end()", y.end(), Help.LAST);
        y.flush();
        s.due("end() behind a flush", y.end(), Help.LAST);
    }
}
