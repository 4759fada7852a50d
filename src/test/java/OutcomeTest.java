/** Promises 28 to 35, sentence by sentence: what it comes to, and what is told. */
public final class OutcomeTest {
    private static final int NONE = Help.NONE, UNKNOWN = Help.UNKNOWN, OUTSIDE = Help.OUTSIDE, STATE = Help.STATE;
    private static final int LEAST = Integer.MIN_VALUE, MOST = Integer.MAX_VALUE;
    private static final Sentences s = new Sentences();

    public static void main(String[] args) {
        safe();
        shortest();
        cost();
        fewest();
        fewestPlaces();
        fewestRefused();
        needless();
        order();
        orderRefused();
        count();
        digest();
        s.end();
    }

    private static void safe() {
        s.promise(28);
        s.says("Whether it is SAFE: 1, 0");
        s.due("safe() of a new object", new LeftStates().safe(), 1);
        LeftStates x = Help.keeping("b=0|a=1");
        x.write(0, 1);
        x.write(1, 1);
        s.due("safe()", x.safe(), 0);
        x.barrier();
        x.swap(1, 2);
        s.due("safe() with a barrier", x.safe(), 1);
        x.swap(0, 2);
        s.due("safe() the wrong way round", x.safe(), 0);
        Help.step(x, "b=1&a=0:b=0");
        s.due("safe() healed", x.safe(), 1);
        LeftStates y = Help.withRules("a=1");
        y.write(0, 1);
        y.tell(0);
        s.due("a promise that nothing made sure", y.safe(), 0);
        y.flush();
        y.swap(1, 2);
        s.due("a promise behind a flush", y.safe(), 1);
        y.write(0, 2);
        s.due("a promise is due for ever", y.safe(), 0);
        LeftStates z = Help.withSteps("a=0:b=b+1");
        s.due("not steady at first", z.safe(), 0);
        z.sector(1, 99);
        s.due("steady, as b is 99", z.safe(), 1);
    }

    private static void shortest() {
        s.promise(29);
        s.says("THE SHORTEST way to a BROKEN one: what = 0 k, 1 the PLATE, 2 REACHED, 3 it HEALED");
        LeftStates x = Help.keeping("!c=1|a=b");
        x.write(3, 9);   // 0: reached surely
        x.flush();       // 1
        x.write(1, 7);   // 2
        x.write(0, 7);   // 3
        x.write(1, 8);   // 4
        x.write(1, 7);   // 5
        x.write(2, 1);   // 6
        Help.step(x, "d=9:d=8");
        s.due("shortest(0)", x.shortest(0), 7);
        s.due("shortest(1)", x.shortest(1), 9010007L);
        s.due("shortest(2)", x.shortest(2), 1 | 8 | 64);
        s.due("shortest(3)", x.shortest(3), 8010007L);
        LeftStates y = Help.keeping("!b=7");
        y.sector(1, 7);
        s.due("shortest(0), broken at first", y.shortest(0), 0);
        s.due("shortest(1), broken at first", y.shortest(1), 700);
        s.due("shortest(2), nothing reached", y.shortest(2), 0);
        s.due("shortest(3), broken at first", y.shortest(3), 700);
        s.says("NONE: it is SAFE");
        LeftStates z = Help.keeping("a<2");
        for (int what = 0; what < 4; what++) {
            s.due("shortest(" + what + ") when safe", z.shortest(what), NONE);
        }
        z.write(0, 1);
        for (int what = 0; what < 4; what++) {
            s.due("shortest(" + what + ") when safe", z.shortest(what), NONE);
        }
        z.write(0, 2);
        s.due("shortest(0) when it is safe no more", z.shortest(0), 2);
        s.says("-2: OUTSIDE");
        for (int what : new int[] {-1, 4, LEAST, MOST}) {
            s.refused("shortest(" + what + ")", -2, q -> q.shortest(what));
        }
    }

    private static void cost() {
        s.promise(30);
        s.says("What a BARRIER (which = 0), a FLUSH (1) costs becomes v: what it was");
        LeftStates x = new LeftStates();
        s.due("cost(0, 9)", x.cost(0, 9), 1);
        s.due("cost(1, 99)", x.cost(1, 99), 5);
        s.due("cost(0, 1)", x.cost(0, 1), 9);
        s.due("cost(1, 1)", x.cost(1, 1), 99);
        s.due("cost(0, 2)", x.cost(0, 2), 1);
        s.due("cost(1, 10)", x.cost(1, 10), 1);
        s.due("cost(1, 10)", x.cost(1, 10), 10);
        s.says("UNKNOWN");
        for (int which : new int[] {-1, 2, LEAST, MOST}) {
            s.refused("cost(" + which + ", 1)", UNKNOWN, z -> z.cost(which, 1));
            s.refused("cost(" + which + ", 0)", UNKNOWN, z -> z.cost(which, 0));
        }
        s.says("OUTSIDE");
        for (int v : new int[] {-1, 0, 10, 99, LEAST, MOST}) {
            s.refused("cost(0, " + v + ")", OUTSIDE, z -> z.cost(0, v));
        }
        for (int v : new int[] {-1, 0, 100, LEAST, MOST}) {
            s.refused("cost(1, " + v + ")", OUTSIDE, z -> z.cost(1, v));
        }
    }

    /** What fewest() answers to 0, 1 and the places. */
    private static void fewestIs(LeftStates x, int costs, int many, int... places) {
        s.due("fewest(0)", x.fewest(0), costs);
        s.due("fewest(1)", x.fewest(1), many);
        for (int i = 0; i < places.length; i++) {
            s.due("fewest(" + (10 + i) + ")", x.fewest(10 + i), places[i]);
        }
    }

    /** A promise at the end of eight acts, or fewer, that only a flush ahead of it makes true. */
    private static LeftStates promising(int acts) {
        LeftStates x = Help.withRules("a=1");
        x.write(0, 1);
        for (int n = 2; n < acts; n++) {
            x.write(1, n);
        }
        x.tell(0);
        return x;
    }

    private static void fewest() {
        s.promise(31);
        s.says("(NONE to each, if there is none)");
        LeftStates x = Help.keeping("a=1");
        fewestIs(x, NONE, NONE, NONE, NONE, NONE, NONE, NONE, NONE, NONE);
        LeftStates y = promising(3);
        y.always(0, true);
        fewestIs(y, NONE, NONE, NONE, NONE, NONE, NONE, NONE, NONE, NONE);
        s.due("count(6): these count too", y.count(6), 9);
        y.always(0, false);
        s.due("fewest(0), when there is one again", y.fewest(0), 5);
        s.says("FEWEST:");
        fewestIs(new LeftStates(), 0, 0);
        fewestIs(promising(3), 5, 1, 0, 2, NONE);
        s.says("what = 0 the cost, 1 how many are put");
        LeftStates z = Help.keeping("b=0|a=1");
        Help.rule(z, "b=1");
        z.write(0, 1);
        z.write(1, 1);
        z.tell(1);
        z.cost(0, 9);
        z.cost(1, 99);
        fewestIs(z, 108, 2, 1, 2);
        z.cost(1, 8);
        fewestIs(z, 16, 2, 2, 2);
        z.undo();
        z.cost(1, 9);
        fewestIs(z, 9, 1, 1);
    }

    private static void fewestPlaces() {
        s.says("10 and i what comes behind ACT i (0, 1, 2; NONE: there is no such place)");
        fewestIs(new LeftStates(), 0, 0, NONE, NONE, NONE, NONE, NONE, NONE, NONE);
        LeftStates one = new LeftStates();
        one.write(0, 1);
        fewestIs(one, 0, 0, NONE, NONE, NONE, NONE, NONE, NONE, NONE);
        fewestIs(promising(2), 5, 1, 2, NONE, NONE, NONE, NONE, NONE, NONE);
        fewestIs(promising(7), 5, 1, 0, 0, 0, 0, 0, 2, NONE);
        fewestIs(promising(8), 5, 1, 0, 0, 0, 0, 0, 0, 2);
        LeftStates early = Help.keeping("a=1|b+c+d+e+f+g=0");
        early.write(0, 1);
        for (int n = 1; n < 7; n++) {
            early.write(n, 1);
        }
        early.write(7, 1);
        fewestIs(early, 1, 1, 1, 0, 0, 0, 0, 0, 0);
    }

    private static void fewestRefused() {
        s.says("OUTSIDE: what (10 to 16 else)");
        for (int what : new int[] {-1, 2, 3, 8, 9, 17, 18, LEAST, LEAST + 9, LEAST + 10, MOST - 9, MOST}) {
            s.refused("fewest(" + what + ")", OUTSIDE, z -> z.fewest(what));
        }
        s.says("STATE: more than 8 ACTS");
        State nine = new State("one of nine acts", () -> {
            LeftStates z = promising(8);
            z.write(2, 2);
            return z;
        });
        for (int what : new int[] {0, 1, 10, 16}) {
            s.refused("fewest(" + what + ")", STATE, z -> z.fewest(what), nine);
        }
        s.refused("fewest(17)", OUTSIDE, z -> z.fewest(17), nine);
        LeftStates x = nine.made();
        s.due("fewest(0) of nine acts", x.fewest(0), STATE);
        x.undo();
        s.due("fewest(0) of eight acts", x.fewest(0), 5);
        s.says("or it was done 12 times ever (it counts on, whatever is read)");
        State twelve = new State("one that did it twelve times", () -> {
            LeftStates z = promising(3);
            for (int n = 0; n < 12; n++) {
                z.fewest(n < 2 ? n : 10 + n % 7);
            }
            return z;
        });
        for (int what : new int[] {0, 1, 10, 16}) {
            s.refused("fewest(" + what + ")", STATE, z -> z.fewest(what), twelve, State.CROWDED);
        }
        LeftStates y = promising(3);
        for (int n = 0; n < 12; n++) {
            s.due("count(6)", y.count(6), n);
            s.due("fewest(2) does not count", y.fewest(2), OUTSIDE);
            s.due("fewest() of time " + (n + 1), y.fewest(n % 2 == 0 ? 0 : 11), n % 2 == 0 ? 5 : 2);
        }
        s.due("fewest(0) the 13th time", y.fewest(0), STATE);
        y.undo();
        y.bare();
        y.blank();
        s.due("fewest(0) for ever", y.fewest(0), STATE);
        s.due("count(6)", y.count(6), 12);
    }

    private static void needless() {
        s.promise(32);
        s.says("NEEDLESS WRITES, as bits of ACTS");
        LeftStates x = new LeftStates();
        s.due("needless() of a new object", x.needless(), 0);
        x.write(0, 1);            // 0
        x.barrier();              // 1
        x.whole(0, 2, 1, 0);      // 2
        x.write(0, 2);            // 3
        x.write(2, 0);            // 4
        s.due("needless()", x.needless(), 1 | 4 | 8 | 16);
        x.write(1, 3);            // 5
        s.due("needless() with one that is needed", x.needless(), 1 | 4 | 8 | 16);
        LeftStates all = new LeftStates();
        for (int n = 0; n < 12; n++) {
            all.write(0, 0);
        }
        s.due("needless() of twelve", all.needless(), 4095);
        all.sector(0, 1);
        s.due("needless(): one alone may go, whichever it is", all.needless(), 4095);
        LeftStates one = new LeftStates();
        one.write(0, 1);
        s.due("needless() of one that is needed", one.needless(), 0);
        one.sector(0, 1);
        s.due("needless() of one that is no news", one.needless(), 1);
    }

    private static void order() {
        s.promise(33);
        s.says("Of two WRITES i, j of one EPOCH, by power that goes behind all ACTS: of how many sets of that EPOCH's WRITES in which j is "
            + "and i is not");
        LeftStates x = Help.withRules("b=0|a=1", "c<3");
        x.write(0, 1);   // 0
        x.tell(0);       // 1
        x.write(1, 1);   // 2
        x.write(1, 0);   // 3
        s.due("order(0, 0, 2)", x.order(0, 0, 2), 1);
        s.due("order(0, 0, 3)", x.order(0, 0, 3), 0);
        s.due("order(0, 2, 0)", x.order(0, 2, 0), 0);
        x.barrier();     // 4
        x.write(0, 0);   // 5
        x.write(2, 3);   // 6
        x.write(2, 3);   // 7
        s.due("order(1, 5, 6): sets, not plates", x.order(1, 5, 6), 2);
        LeftStates most = Help.withRules("0=1");
        for (int n = 0; n < 12; n++) {
            most.write(0, 0);
        }
        s.due("order(0, 0, 11) of twelve writes", most.order(0, 0, 11), 1024);
        s.due("order(0, 11, 0) of twelve writes", most.order(0, 11, 0), 1024);
        LeftStates over = Help.withRules("b=0", "a=2");
        over.write(1, 1);   // 0
        over.write(0, 1);   // 1
        over.write(0, 2);   // 2
        s.due("order(0, 0, 2): b is 0 in both sets", over.order(0, 0, 2), 0);
        s.due("order(0, 2, 0): b is 1 in both sets", over.order(0, 2, 0), 2);
        s.due("order(1, 0, 2): 2 lies above 1", over.order(1, 0, 2), 0);
        s.due("order(1, 2, 1): 1 without 2", over.order(1, 2, 1), 2);
        s.says("(EPOCHS ahead have reached, those behind have not)");
        s.due("order(0, 0, 2): those behind have not", x.order(0, 0, 2), 1);
        s.due("order(0, 6, 5): those ahead have", x.order(0, 6, 5), 0);
        LeftStates y = Help.withRules("a=1&c=0");
        y.write(0, 1);   // 0
        y.barrier();     // 1
        y.write(1, 1);   // 2
        y.write(1, 2);   // 3
        y.barrier();     // 4
        y.write(2, 1);   // 5
        s.due("order(0, 2, 3): a is 1, c is 0", y.order(0, 2, 3), 0);
        y.swap(0, 5);
        s.due("order(0, 2, 3): a is 0, c is 1", y.order(0, 2, 3), 1);
        s.says("does a RULE not hold in the PLATE HEALED");
        Help.step(x, "b=1:b=0");
        s.due("order(0, 0, 2) healed", x.order(0, 0, 2), 0);
        x.bare();
        s.due("order(0, 0, 2) bare", x.order(0, 0, 2), 1);
        Help.step(x, "c=0:c=3");
        s.due("order(1, 0, 2), healed into what is wrong", x.order(1, 0, 2), 2);
    }

    private static void orderRefused() {
        s.says("UNKNOWN: rule, i, j");
        s.refused("order(0, 0, 1)", UNKNOWN, z -> z.order(0, 0, 1), State.NEW);
        s.refused("order(2, 3, 4)", UNKNOWN, z -> z.order(2, 3, 4), State.MIDDLE);
        s.refused("order(0, 6, 4)", UNKNOWN, z -> z.order(0, 6, 4), State.MIDDLE);
        s.refused("order(0, 3, 6)", UNKNOWN, z -> z.order(0, 3, 6), State.MIDDLE);
        for (int n : new int[] {-1, 12, LEAST, MOST}) {
            s.refused("order(" + n + ", 3, 4)", UNKNOWN, z -> z.order(n, 3, 4));
            s.refused("order(0, " + n + ", 4)", UNKNOWN, z -> z.order(0, n, 4));
            s.refused("order(0, 3, " + n + ")", UNKNOWN, z -> z.order(0, 3, n));
        }
        s.refused("order(6, 9, 10)", UNKNOWN, z -> z.order(6, 9, 10), State.CROWDED);
        s.says("(no WRITES, or the same)");
        for (int n : new int[] {2, 5}) {
            s.refused("order(0, " + n + ", 3), no write", UNKNOWN, z -> z.order(0, n, 3), State.MIDDLE);
            s.refused("order(0, 3, " + n + "), no write", UNKNOWN, z -> z.order(0, 3, n), State.MIDDLE);
        }
        for (int n : new int[] {1, 3, 4, 7, 8}) {
            s.refused("order(0, " + n + ", 9), no write", UNKNOWN, z -> z.order(0, n, 9), State.CROWDED);
            s.refused("order(0, 9, " + n + "), no write", UNKNOWN, z -> z.order(0, 9, n), State.CROWDED);
        }
        s.refused("order(0, 3, 3)", UNKNOWN, z -> z.order(0, 3, 3), State.MIDDLE);
        s.refused("order(0, 0, 0), ahead of the last flush", UNKNOWN, z -> z.order(0, 0, 0), State.CROWDED);
        s.says("STATE: they are not of one EPOCH");
        s.refused("order(0, 1, 3)", STATE, z -> z.order(0, 1, 3), State.MIDDLE);
        s.refused("order(0, 4, 0)", STATE, z -> z.order(0, 4, 0), State.MIDDLE);
        s.refused("order(0, 6, 9)", STATE, z -> z.order(0, 6, 9), State.CROWDED);
        s.refused("order(0, 9, 5)", STATE, z -> z.order(0, 9, 5), State.CROWDED);
        s.says("or it lies ahead of the last FLUSH");
        State flushed = new State("one with a flush behind", () -> {
            LeftStates z = State.MIDDLE.made();
            z.flush();
            return z;
        });
        s.due("order(1, 3, 4) without the flush", State.MIDDLE.made().order(1, 3, 4), 0);
        s.refused("order(1, 3, 4)", STATE, z -> z.order(1, 3, 4), flushed);
        s.refused("order(1, 1, 0)", STATE, z -> z.order(1, 1, 0), flushed);
        LeftStates x = flushed.made();
        x.write(0, 60);
        x.write(1, 1);
        s.due("order(0, 8, 7) behind the flush", x.order(0, 8, 7), 1);
        s.due("order(0, 7, 8) behind the flush", x.order(0, 7, 8), 0);
    }

    private static void count() {
        s.promise(34);
        s.says("How many: 0 ACTS, 1 RULES, 2 STEPS, 3 letters of THE PAGE, 4 EPOCHS that have WRITES, 5 WRITES, 6 how often fewest() was done");
        int[] none = {0, 0, 0, 0, 0, 0, 0};
        int[] middle = {6, 2, 2, 4, 2, 4, 1};
        int[] most = {12, 6, 8, 60, 4, 7, 12};
        for (int what = 0; what <= 6; what++) {
            s.due("count(" + what + ") of a new object", State.NEW.made().count(what), none[what]);
            s.due("count(" + what + ") of a middling one", State.MIDDLE.made().count(what), middle[what]);
            s.due("count(" + what + ") of a full one", State.CROWDED.made().count(what), most[what]);
        }
        LeftStates x = Help.withRules("a=0");
        x.barrier();
        x.tell(0);
        s.due("count(4): an epoch without writes", x.count(4), 0);
        x.write(0, 0);
        x.tell(0);
        x.whole(0, 0, 1, 0);
        s.due("count(4): a TELL ends none", x.count(4), 1);
        x.flush();
        x.barrier();
        s.due("count(4)", x.count(4), 1);
        x.write(0, 0);
        s.due("count(4)", x.count(4), 2);
        s.due("count(5)", x.count(5), 3);
        s.says("OUTSIDE");
        for (int what : new int[] {-1, 7, LEAST, MOST}) {
            s.refused("count(" + what + ")", OUTSIDE, z -> z.count(what));
        }
    }

    private static void digest() {
        s.promise(35);
        s.says("h is 269, then for each of these numbers, in order, 31 times h, and it (as longs, wrapping): the PLATE AT FIRST as a number; "
            + "of each ACT what act() tells for 0 to 4; THE END; of each RULE 1 if it is kept ALWAYS, else 0, 1 if it holds in the PLATE AT FIRST, "
            + "else 0; how many PLATES FOUND(k) has for k 0 to n; the PLATE AT FIRST HEALED; what a BARRIER, a FLUSH costs; letters of THE PAGE; "
            + "what count() tells for 0 to 6");
        s.due("digest() of a new object", new LeftStates().digest(), Help.mixed(0, 0, 1, 0, 1, 5, 0, 0, 0, 0, 0, 0, 0));
        LeftStates x = new LeftStates();
        x.sector(1, 2);
        x.write(0, 3);
        x.whole(1, 4, 7, 5);
        Help.rule(x, "b=2");
        Help.rule(x, "b=3");
        x.always(1, true);
        x.tell(1);
        Help.step(x, "b=2:c=9");
        x.cost(0, 7);
        x.cost(1, 70);
        Help.page(x, "z!");
        x.fewest(0);
        long due = Help.mixed(200, 0, 0, 3, -1, -1, 1, 1, 4, 7, 5, 4, 1, -1, -1, -1, 500000000000403L,
            0, 1, 1, 0, 1, 2, 4, 4, 90200, 7, 70, 'z', '!', 3, 2, 1, 2, 1, 2, 1);
        s.due("digest()", x.digest(), due);
        s.due("digest() again", x.digest(), due);
        LeftStates y = new LeftStates();
        for (int n = 0; n < 8; n++) {
            y.sector(n, 99);
        }
        s.due("digest() of the greatest plate", y.digest(), Help.mixed(Help.LAST, Help.LAST, 1, Help.LAST, 1, 5, 0, 0, 0, 0, 0, 0, 0));
    }
}
