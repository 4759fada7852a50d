/** Promises 20 to 27, sentence by sentence: what is found, and how it heals. */
public final class FoundTest {
    private static final int NONE = Help.NONE, UNKNOWN = Help.UNKNOWN, OUTSIDE = Help.OUTSIDE;
    private static final int LEAST = Integer.MIN_VALUE, MOST = Integer.MAX_VALUE;
    private static final long[] NO_PLATES = {-1L, -2L, Help.LAST + 1, Long.MIN_VALUE, Long.MAX_VALUE};
    private static final Sentences s = new Sentences();

    public static void main(String[] args) {
        found();
        plate();
        heal();
        cut();
        steady();
        kept();
        broken();
        bounds();
        s.end();
    }

    /** Two epochs ahead of a flush, three behind it (one of them has no writes). */
    private static LeftStates epochs() {
        LeftStates x = new LeftStates();
        x.write(0, 1);   // 0
        x.write(1, 1);   // 1
        x.barrier();     // 2
        x.write(0, 2);   // 3
        x.write(2, 1);   // 4
        x.flush();       // 5
        x.write(0, 3);   // 6
        x.barrier();     // 7
        x.barrier();     // 8
        x.write(0, 1);   // 9
        return x;
    }

    private static void found() {
        s.promise(20);
        s.says("How many PLATES FOUND(k) has");
        LeftStates x = epochs();
        int[] many = {1, 2, 4, 4, 5, 7, 1, 2, 2, 2, 3};
        for (int k = 0; k < many.length; k++) {
            s.due("found(" + k + ")", x.found(k), many[k]);
        }
        for (int k = many.length - 1; k >= 0; k--) {
            s.due("found(" + k + ") again", x.found(k), many[k]);
        }
        x.sector(0, 1);
        s.due("found(1) when the write is no news", x.found(1), 1);
        x.swap(2, 5);
        s.due("found(5) behind swap", x.found(5), 4);
        s.due("found(3) behind swap", x.found(3), 1);
        LeftStates y = new LeftStates();
        s.due("found(0) of a new object", y.found(0), 1);
        for (int n = 0; n < 12; n++) {
            y.write(n % 8, 1 + n);
        }
        s.due("found(8): 8 writes of unlike sectors", y.found(8), 256);
        s.due("found(12): 4 sectors of 3 numbers, 4 of 2", y.found(12), 1296);
        s.says("OUTSIDE");
        s.refused("found(1)", OUTSIDE, z -> z.found(1), State.NEW);
        s.refused("found(7)", OUTSIDE, z -> z.found(7), State.MIDDLE);
        for (int k : new int[] {-1, 13, LEAST, MOST}) {
            s.refused("found(" + k + ")", OUTSIDE, z -> z.found(k));
        }
    }

    private static void plate() {
        s.promise(21);
        s.says("The i-th of FOUND(k) (from 0)");
        LeftStates x = new LeftStates();
        x.write(1, 1);
        x.whole(0, 2, 7, 3);
        x.write(0, 4);
        long[] told = {0, 4, 100, 104, 300000000000002L, 300000000000004L, 300000000000102L, 300000000000104L};
        s.due("found(3)", x.found(3), told.length);
        for (int i = 0; i < told.length; i++) {
            s.due("plate(3, " + i + ")", x.plate(3, i), told[i]);
        }
        s.due("plate(0, 0)", x.plate(0, 0), 0);
        s.due("plate(1, 1)", x.plate(1, 1), 100);
        s.due("plate(2, 2)", x.plate(2, 2), 300000000000002L);
        x.sector(7, 99);
        s.due("plate(0, 0) with h 99 at first", x.plate(0, 0), 9900000000000000L);
        s.due("plate(3, 0) with h 99 at first", x.plate(3, 0), 300000000000002L);
        s.due("plate(3, 7) with h 99 at first", x.plate(3, 7), 9900000000000104L);
        s.says("NONE");
        for (int i : new int[] {-1, 8, LEAST, MOST}) {
            s.due("plate(3, " + i + ")", x.plate(3, i), NONE);
        }
        s.due("plate(0, 1)", x.plate(0, 1), NONE);
        s.due("plate(0, 1) of a new object", new LeftStates().plate(0, 1), NONE);
        s.says("-2: OUTSIDE: k");
        s.refused("plate(1, 0)", -2, z -> z.plate(1, 0), State.NEW);
        s.refused("plate(7, 0)", -2, z -> z.plate(7, 0), State.MIDDLE);
        for (int k : new int[] {-1, 13, LEAST, MOST}) {
            s.refused("plate(" + k + ", 0)", -2, z -> z.plate(k, 0));
            s.refused("plate(" + k + ", -1)", -2, z -> z.plate(k, -1));
        }
    }

    private static void heal() {
        s.promise(22);
        s.says("A PLATE HEALED");
        LeftStates x = new LeftStates();
        s.due("heal(5) without steps", x.heal(5L), 5);
        s.due("heal(0) without steps", x.heal(0L), 0);
        s.due("heal(the last) without steps", x.heal(Help.LAST), Help.LAST);
        Help.step(x, "a>b:c=a-b");
        Help.step(x, "c>0:b=a+c");
        Help.step(x, "h=99:a=0-1");
        s.due("heal(5)", x.heal(5L), 51005);
        s.due("heal(99): b would be above 99", x.heal(99L), 990099L);
        s.due("heal: a would be below 0", x.heal(9900000000000001L), 9900000000010201L);
        s.due("heal(the last)", x.heal(Help.LAST), Help.LAST);
        s.due("heal(0)", x.heal(0L), 0);
        s.says("-2: OUTSIDE (as holds())");
        for (long p : NO_PLATES) {
            s.refused("heal(" + p + ")", -2, z -> z.heal(p));
        }
    }

    private static void cut() {
        s.promise(23);
        s.says("A PLATE CUT behind j STEPS: how it ends");
        LeftStates x = new LeftStates();
        s.due("cut(7, 0) without steps", x.cut(7L, 0), 7);
        Help.step(x, "a=1:a=2");
        Help.step(x, "a=0:a=1");
        Help.step(x, "a<5&b=1:a=a+1");
        s.due("cut(0, 0)", x.cut(0L, 0), 1);
        s.due("cut(0, 1)", x.cut(0L, 1), 1);
        s.due("cut(0, 2)", x.cut(0L, 2), 2);
        s.due("cut(0, 3)", x.cut(0L, 3), 2);
        s.due("cut(103, 3)", x.cut(103L, 3), 105);
        s.due("cut(103, 2)", x.cut(103L, 2), 104);
        s.due("cut(the last, 3)", x.cut(Help.LAST, 3), Help.LAST);
        s.due("cut(0, 8) of eight steps", State.CROWDED.made().cut(3L, 8), 3);
        s.says("-2: OUTSIDE (as holds())");
        for (long p : NO_PLATES) {
            s.refused("cut(" + p + ", 0)", -2, z -> z.cut(p, 0));
            s.refused("cut(" + p + ", 9)", -2, z -> z.cut(p, 9));
        }
        s.says("-1: UNKNOWN: j");
        s.refused("cut(0, 1)", -1, z -> z.cut(0L, 1), State.NEW);
        s.refused("cut(0, 3)", -1, z -> z.cut(0L, 3), State.MIDDLE);
        for (int j : new int[] {-1, 9, LEAST, MOST}) {
            s.refused("cut(0, " + j + ")", -1, z -> z.cut(0L, j));
            s.refused("cut(the last, " + j + ")", -1, z -> z.cut(Help.LAST, j));
        }
    }

    private static void steady() {
        s.promise(24);
        s.says("Whether a PLATE is STEADY: 1, 0");
        LeftStates x = new LeftStates();
        s.due("steady(0) without steps", x.steady(0L), 1);
        s.due("steady(the last) without steps", x.steady(Help.LAST), 1);
        Help.step(x, "a=0:b=1");
        Help.step(x, "b=1&a=0:a=1");
        Help.step(x, "b=1:b=0");
        // behind the second step a is 1 and b is 1: begun anew the third lays b, as without a cut
        s.due("steady(0)", x.steady(0L), 1);
        Help.step(x, "c=9:d=d+1");
        s.due("steady of c 9", x.steady(90000L), 0);
        s.due("steady of c 9, d 97", x.steady(97090001L), 0);
        s.due("steady of c 9, d 98: begun anew, 100 is not laid", x.steady(98090001L), 1);
        s.due("steady of c 9, d 99", x.steady(99090001L), 1);
        s.due("steady of c 8", x.steady(80000L), 1);
        s.due("steady(the last)", x.steady(Help.LAST), 1);
        s.says("OUTSIDE (as holds())");
        for (long p : NO_PLATES) {
            s.refused("steady(" + p + ")", OUTSIDE, z -> z.steady(p));
        }
    }

    private static void kept() {
        s.promise(25);
        s.says("In how many of FOUND(k), not HEALED (how = 0), HEALED (1), a RULE holds");
        LeftStates x = Help.withRules("a=b", "0=1", "0=0");
        x.write(0, 1);
        x.write(1, 1);
        x.write(1, 1);
        s.due("kept(0, 0, 0)", x.kept(0, 0, 0), 1);
        s.due("kept(0, 1, 0)", x.kept(0, 1, 0), 1);
        s.due("kept(0, 3, 0)", x.kept(0, 3, 0), 2);
        s.due("kept(0, 3, 1)", x.kept(0, 3, 1), 2);
        s.due("kept(1, 3, 0): none", x.kept(1, 3, 0), 0);
        s.due("kept(1, 3, 1): none", x.kept(1, 3, 1), 0);
        s.due("kept(2, 3, 0): all", x.kept(2, 3, 0), 4);
        s.due("kept(2, 3, 1): all", x.kept(2, 3, 1), 4);
        Help.step(x, "a>b:a=b");
        s.due("kept(0, 3, 0) with a step", x.kept(0, 3, 0), 2);
        s.due("kept(0, 3, 1) with a step", x.kept(0, 3, 1), 3);
        s.due("kept(2, 3, 1): two that heal alike count twice", x.kept(2, 3, 1), 4);
        x.sector(1, 1);
        s.due("kept(0, 3, 1) with b 1 at first", x.kept(0, 3, 1), 1);
        s.says("UNKNOWN");
        s.refused("kept(0, 0, 0)", UNKNOWN, z -> z.kept(0, 0, 0), State.NEW);
        s.refused("kept(2, 0, 0)", UNKNOWN, z -> z.kept(2, 0, 0), State.MIDDLE);
        for (int r : new int[] {-1, 6, LEAST, MOST}) {
            s.refused("kept(" + r + ", 0, 0)", UNKNOWN, z -> z.kept(r, 0, 0));
            s.refused("kept(" + r + ", 13, 2)", UNKNOWN, z -> z.kept(r, 13, 2));
        }
        s.says("OUTSIDE: k, how");
        s.refused("kept(0, 7, 0)", OUTSIDE, z -> z.kept(0, 7, 0), State.MIDDLE);
        for (int n : new int[] {-1, 13, LEAST, MOST}) {
            s.refused("kept(0, " + n + ", 0)", OUTSIDE, z -> z.kept(0, n, 0), State.MIDDLE, State.CROWDED);
            s.refused("kept(1, " + n + ", 1)", OUTSIDE, z -> z.kept(1, n, 1), State.MIDDLE, State.CROWDED);
        }
        for (int how : new int[] {-1, 2, LEAST, MOST}) {
            s.refused("kept(0, 0, " + how + ")", OUTSIDE, z -> z.kept(0, 0, how), State.MIDDLE, State.CROWDED);
        }
    }

    private static void broken() {
        s.promise(26);
        s.says("How many of FOUND(k) are BROKEN");
        LeftStates x = Help.withRules("a=1", "b<2");
        s.due("broken(0)", x.broken(0), 0);
        x.write(0, 1);
        x.write(1, 2);
        x.tell(0);
        s.due("broken(2)", x.broken(2), 0);
        s.due("broken(3)", x.broken(3), 2);
        x.always(1, true);
        s.due("broken(2)", x.broken(2), 2);
        s.due("broken(3): one breaks both rules, and counts once", x.broken(3), 3);
        Help.step(x, "b=2:b=0");
        s.due("broken(3) healed", x.broken(3), 2);
        Help.step(x, "b=0:c=c+1");
        s.due("broken(0), not steady", x.broken(0), 1);
        s.due("broken(3), not steady", x.broken(3), 4);
        brokenAndWrittenOver();
        s.says("OUTSIDE");
        s.refused("broken(1)", OUTSIDE, z -> z.broken(1), State.NEW);
        s.refused("broken(7)", OUTSIDE, z -> z.broken(7), State.MIDDLE);
        for (int k : new int[] {-1, 13, LEAST, MOST}) {
            s.refused("broken(" + k + ")", OUTSIDE, z -> z.broken(k));
        }
    }

    private static void brokenAndWrittenOver() {
        LeftStates y = Help.keeping("b=0");
        y.whole(0, 1, 1, 1);
        y.write(0, 2);
        s.due("broken(2): a WHOLE half of which is written over", y.broken(2), 2);
        LeftStates z = Help.keeping("b=0");
        z.whole(1, 1, 0, 1);
        z.write(0, 2);
        s.due("broken(2): a WHOLE whose other half is written over", z.broken(2), 2);
        LeftStates last = Help.keeping("a=0");
        last.whole(0, 1, 1, 1);
        last.write(1, 2);
        s.due("broken(2): the other way round", last.broken(2), 2);
        LeftStates behind = Help.keeping("c=0");
        behind.write(2, 1);
        behind.whole(0, 1, 1, 1);
        s.due("broken(2): a WRITE that a WHOLE leaves alone", behind.broken(2), 2);
        LeftStates beside = Help.keeping("a=0&d=0");
        beside.write(0, 1);
        beside.whole(1, 1, 2, 1);
        s.due("broken(2): a WRITE beside a WHOLE", beside.broken(2), 2);
        beside.write(3, 1);
        beside.whole(2, 2, 1, 2);
        s.due("broken(4): WRITES beside WHOLES: 3 of 4 times 3 (1 and 1, 2 and 2, none)", beside.broken(4), 9);
        LeftStates w = Help.keeping("b=0");
        w.write(1, 1);
        w.write(0, 2);
        s.due("broken(2): a WRITE that the next one leaves alone", w.broken(2), 2);
        w.write(1, 0);
        s.due("broken(3): a WRITE that may be written over", w.broken(3), 2);
    }

    private static void bounds() {
        s.promise(27);
        s.says("Of a SECTOR in FOUND(k): side 0 the least number, 1 the greatest");
        LeftStates x = new LeftStates();
        x.sector(3, 50);
        x.write(3, 60);
        x.write(3, 40);
        x.flush();
        x.whole(3, 45, 7, 99);
        int[][] told = {{50, 50}, {50, 60}, {40, 60}, {40, 40}, {40, 45}};
        for (int k = 0; k < 5; k++) {
            s.due("bounds(3, " + k + ", 0)", x.bounds(3, k, 0), told[k][0]);
            s.due("bounds(3, " + k + ", 1)", x.bounds(3, k, 1), told[k][1]);
        }
        s.due("bounds(7, 4, 1)", x.bounds(7, 4, 1), 99);
        s.due("bounds(7, 4, 0)", x.bounds(7, 4, 0), 0);
        s.due("bounds(0, 0, 0) of a new object", new LeftStates().bounds(0, 0, 0), 0);
        Help.step(x, "d>0:d=1");
        s.due("bounds(3, 2, 1): it is not healed", x.bounds(3, 2, 1), 60);
        s.says("UNKNOWN");
        for (int n : new int[] {-1, 8, LEAST, MOST}) {
            s.refused("bounds(" + n + ", 0, 0)", UNKNOWN, z -> z.bounds(n, 0, 0));
            s.refused("bounds(" + n + ", 13, 2)", UNKNOWN, z -> z.bounds(n, 13, 2));
        }
        s.says("OUTSIDE: k, side");
        s.refused("bounds(0, 1, 0)", OUTSIDE, z -> z.bounds(0, 1, 0), State.NEW);
        s.refused("bounds(0, 7, 0)", OUTSIDE, z -> z.bounds(0, 7, 0), State.MIDDLE);
        for (int k : new int[] {-1, 13, LEAST, MOST}) {
            s.refused("bounds(0, " + k + ", 0)", OUTSIDE, z -> z.bounds(0, k, 0));
            s.refused("bounds(7, " + k + ", 1)", OUTSIDE, z -> z.bounds(7, k, 1));
        }
        for (int side : new int[] {-1, 2, LEAST, MOST}) {
            s.refused("bounds(0, 0, " + side + ")", OUTSIDE, z -> z.bounds(0, 0, side));
            s.refused("bounds(7, 0, " + side + ")", OUTSIDE, z -> z.bounds(7, 0, side));
        }
    }
}
