import java.util.function.ToLongFunction;

/** The sentences of "What it is", "The public face" and "Terms" on which the promises rest. */
public final class TermsTest {
    private static final int NONE = Help.NONE, UNKNOWN = Help.UNKNOWN, OUTSIDE = Help.OUTSIDE, STATE = Help.STATE, FULL = Help.FULL;
    private static final Sentences s = new Sentences();

    public static void main(String[] args) {
        whatItIs();
        face();
        s.section("Terms");
        program();
        powerGoes();
        reached();
        rules();
        sums();
        steps();
        cutAndSteady();
        dueAndBroken();
        safe();
        safeBehindTells();
        shortest();
        putBetween();
        fewest();
        likeOnes();
        needless();
        refusals();
        s.end();
    }

    private static void whatItIs() {
        s.partOf("What it is");
        s.says("A PLATE has SECTORS a to h (0 to 7)");
        LeftStates x = Help.withRules("a=1", "h=1");
        s.due("rule i=1", Help.rule(x, "i=1"), STATE);
        x.sector(0, 1);
        x.sector(7, 1);
        s.due("plate(0, 0)", x.plate(0, 0), 100000000000001L);
        s.due("holds(0, plate)", x.holds(0, 1L), 1);
        s.due("holds(1, plate)", x.holds(1, 100000000000000L), 1);
        s.due("sector(8, 1)", x.sector(8, 1), UNKNOWN);
        s.due("sector(-1, 1)", x.sector(-1, 1), UNKNOWN);
        s.says("each a number 0 to 99 (at first 0; the PLATE AT FIRST)");
        LeftStates y = new LeftStates();
        s.due("plate(0, 0)", y.plate(0, 0), 0);
        for (int n = 0; n < 8; n++) {
            s.due("sector(" + n + ", 100)", y.sector(n, 100), OUTSIDE);
            s.due("sector(" + n + ", -1)", y.sector(n, -1), OUTSIDE);
            s.due("sector(" + n + ", 99)", y.sector(n, 99), 0);
        }
        s.due("plate(0, 0)", y.plate(0, 0), Help.LAST);
        s.says("An object is used for at most 512 calls after it has been made");
        lastCall();
        manyChanges();
    }

    /** All 512 calls of one object answer as they should. */
    private static void lastCall() {
        LeftStates x = new LeftStates();
        s.due("call 1, letters", x.letters(Help.word("a<50", 0)), 4);
        s.due("call 2, rule()", x.rule(), 0);
        s.due("call 3, always(0, true)", x.always(0, true), 0);
        for (int call = 4; call < 512; call += 4) {
            int v = call % 100;
            s.due("call " + call + ", write(0, " + v + ")", x.write(0, v), 0);
            s.due("found(1)", x.found(1), v == 0 ? 1 : 2);
            s.due("safe()", x.safe(), v < 50 ? 1 : 0);
            s.due("undo()", x.undo(), 0);
        }
        s.due("call 512, digest()", x.digest(), Help.mixed(0, 0, 1, 1, 1, 0, 1, 5, 0, 1, 0, 0, 0, 0, 0));
    }

    /** So many changes, one look, so many changes more, and a look at what is otherwise then. */
    private static void farApart(int ahead, int between) {
        LeftStates x = Help.keeping("b=0");
        x.write(0, 1);
        for (int n = 0; n < ahead; n++) {
            x.sector(1, 0);
        }
        s.due("broken(1) behind " + ahead, x.broken(1), 0);
        for (int n = 0; n < between; n++) {
            x.sector(1, 1);
        }
        s.due("broken(1) behind " + ahead + " and " + between, x.broken(1), 2);
    }

    /** Nothing of an earlier state shows in a later one, however far they are apart. */
    private static void manyChanges() {
        for (int ahead = 0; ahead < 12; ahead++) {
            for (int between = 1; between < 20; between++) {
                farApart(ahead, between);
            }
        }
        LeftStates x = new LeftStates();
        x.letters(Help.word("a<50", 0));
        x.rule();
        x.always(0, true);
        for (int n = 0; n < 169; n++) {
            int v = n * n * 37 % 100;
            x.sector(1, v);
            x.sector(0, v);
            s.due("safe() of change " + n, x.safe(), v < 50 ? 1 : 0);
        }
        LeftStates y = new LeftStates();
        y.letters(Help.word("a<50", 0));
        y.rule();
        y.always(0, true);
        for (int n = 0; n < 254; n++) {
            int v = n * n * 37 % 100;
            y.sector(0, v);
            s.due("broken(0) of change " + n, y.broken(0), v < 50 ? 0 : 1);
        }
    }

    private static void face() {
        s.partOf("The public face");
        s.says("NONE = -1, UNKNOWN = -101, OUTSIDE = -102, STATE = -103, FULL = -104");
        s.due("NONE", LeftStates.NONE, -1);
        s.due("UNKNOWN", LeftStates.UNKNOWN, -101);
        s.due("OUTSIDE", LeftStates.OUTSIDE, -102);
        s.due("STATE", LeftStates.STATE, -103);
        s.due("FULL", LeftStates.FULL, -104);
    }

    private static void program() {
        s.says("THE PROGRAM: ACTS 0 to n less 1 (12 at most)");
        LeftStates x = Help.withRules("a=0");
        int[] numbers = {x.write(0, 1), x.whole(0, 1, 1, 1), x.barrier(), x.flush(), x.tell(0), x.write(0, 1), x.whole(0, 1, 1, 1), x.barrier(),
            x.flush(), x.tell(0), x.write(0, 1), x.write(0, 1)};
        for (int n = 0; n < 12; n++) {
            s.due("the number of act " + n, numbers[n], n);
        }
        s.due("write", x.write(0, 1), FULL);
        s.due("whole", x.whole(0, 1, 1, 1), FULL);
        s.due("barrier", x.barrier(), FULL);
        s.due("flush", x.flush(), FULL);
        s.due("tell", x.tell(0), FULL);
        s.due("count(0)", x.count(0), 12);
        s.says("WRITE (a SECTOR, a number), WHOLE (two unlike SECTORS, two numbers), BARRIER, FLUSH, TELL (a RULE)");
        for (int i = 0; i < 5; i++) {
            s.due("the sort of act " + i, x.act(i, 0), i);
        }
        s.due("whole(3, 1, 3, 2)", new LeftStates().whole(3, 1, 3, 2), UNKNOWN);
        s.says("WRITES are WRITE and WHOLE");
        s.due("count(5)", x.count(5), 6);
        s.due("needless(): WRITES alone", x.needless() & ~(1 | 2 | 32 | 64 | 1024 | 2048), 0);
        s.says("An EPOCH: the WRITES between one BARRIER or FLUSH (or the beginning) and the next one");
        s.due("count(4)", x.count(4), 3);
        LeftStates y = Help.withRules("b=0|a=1");
        y.write(0, 1);
        s.due("count(4), from the beginning", y.count(4), 1);
        y.tell(0);
        y.write(1, 1);
        s.due("order(0, 0, 2) across a TELL", y.order(0, 0, 2), 1);
        s.due("found(3) across a TELL", y.found(3), 4);
        y.barrier();
        s.due("count(4), no writes behind", y.count(4), 1);
        y.flush();
        y.barrier();
        s.due("count(4), empty ones", y.count(4), 1);
        y.write(2, 1);
        s.due("count(4)", y.count(4), 2);
    }

    private static void plates(LeftStates x, int k, long... due) {
        s.due("found(" + k + ")", x.found(k), due.length);
        for (int i = 0; i < due.length; i++) {
            s.due("plate(" + k + ", " + i + ")", x.plate(k, i), due[i]);
        }
        s.due("plate(" + k + ", " + due.length + ")", x.plate(k, due.length), NONE);
    }

    private static void powerGoes() {
        s.says("Power may go behind k ACTS (0 to n)");
        LeftStates x = new LeftStates();
        s.due("found(0) of no acts", x.found(0), 1);
        s.due("found(1) of no acts", x.found(1), OUTSIDE);
        x.write(0, 1);
        s.due("found(0)", x.found(0), 1);
        s.due("found(1)", x.found(1), 2);
        s.due("found(2)", x.found(2), OUTSIDE);
        s.due("found(-1)", x.found(-1), OUTSIDE);
        s.says("Of these: EPOCHS that lie ahead of the last FLUSH among them have reached the PLATE");
        x.flush();
        x.write(0, 2);
        x.barrier();
        x.write(1, 3);
        x.flush();
        x.write(0, 4);
        plates(x, 1, 0, 1);
        plates(x, 2, 1);
        plates(x, 3, 1, 2);
        plates(x, 4, 1, 2);
        plates(x, 5, 1, 2, 302);
        plates(x, 6, 302);
        plates(x, 7, 302, 304);
    }

    private static void reached() {
        s.says("Of the other EPOCHS (of the k ACTS): for some one of them, all ahead of it have reached, of it any set of its WRITES, "
            + "of those behind it none");
        LeftStates x = new LeftStates();
        x.write(0, 1);
        x.write(1, 1);
        x.barrier();
        x.write(2, 1);
        x.write(3, 1);
        plates(x, 3, 0, 1, 100, 101);
        plates(x, 4, 0, 1, 100, 101, 10101);
        plates(x, 5, 0, 1, 100, 101, 10101, 1000101, 1010101);
        LeftStates y = new LeftStates();
        y.write(0, 1);
        y.barrier();
        y.barrier();
        y.write(1, 1);
        plates(y, 4, 0, 1, 101);
        s.says("What has reached lies on the PLATE by the order of ACTS (a WHOLE with both its numbers)");
        LeftStates z = new LeftStates();
        z.write(0, 1);
        z.write(0, 2);
        plates(z, 2, 0, 1, 2);
        z.whole(0, 3, 1, 4);
        plates(z, 3, 0, 1, 2, 403);
        z.write(1, 5);
        plates(z, 4, 0, 1, 2, 403, 500, 501, 502, 503);
        s.says("FOUND(k): all unlike PLATES that there may be; as a number of base 100, SECTOR h's figure highest, they are told from the least on");
        LeftStates w = new LeftStates();
        w.write(7, 1);
        w.write(0, 99);
        plates(w, 2, 0, 99, 100000000000000L, 100000000000099L);
        w.write(0, 99);
        plates(w, 3, 0, 99, 100000000000000L, 100000000000099L);
        w.write(7, 0);
        plates(w, 4, 0, 99, 100000000000000L, 100000000000099L);
        w.write(7, 99);
        plates(w, 5, 0, 99, 100000000000000L, 100000000000099L, 9900000000000000L, 9900000000000099L);
        LeftStates less = new LeftStates();
        less.sector(0, 5);
        less.write(0, 3);
        plates(less, 1, 3, 5);
        less.write(0, 4);
        plates(less, 2, 3, 4, 5);
        s.says("THE END: the PLATE, if all ACTS have reached");
        s.due("end()", w.end(), 9900000000000099L);
        s.due("end()", z.end(), 503);
        s.due("end()", x.end(), 1010101L);
    }

    /** Whether a rule of this text holds in plates: a 1 or a 0 for each. */
    private static void holdsIn(String text, String due, long... plates) {
        LeftStates x = Help.withRules(text);
        for (int i = 0; i < plates.length; i++) {
            s.due(text + " in " + plates[i], x.holds(0, plates[i]), due.charAt(i) - '0');
        }
    }

    private static void isNone(String... texts) {
        for (String text : texts) {
            s.due("rule " + text, Help.rule(new LeftStates(), text), STATE);
        }
    }

    private static void rules() {
        s.says("2 RULES (6 at most, numbered) are texts");
        LeftStates x = new LeftStates();
        for (int n = 0; n < 6; n++) {
            s.due("rule", Help.rule(x, "a=" + n), n);
        }
        s.due("a seventh", Help.rule(x, "a=6"), FULL);
        s.due("its letters stay", x.count(3), 3);
        s.says("TERMS with \"|\" between (one of them at least holds)");
        holdsIn("a=1|b=1|c=1", "01111", 0, 1, 100, 10000, 10101);
        isNone("|a=1", "a=1|", "a=1||b=1", "|");
        s.says("TERM: FACTORS with \"&\" between (all hold)");
        holdsIn("a=1&b=1&c=1", "00001", 0, 1, 10100, 10001, 10101);
        holdsIn("a=1&b=1|c=1&d=1", "0110", 10001, 101, 1010000, 1000001);
        isNone("&a=1", "a=1&", "a=1&&b=1", "a=1&|b=1");
        s.says("FACTOR: \"!\" and a FACTOR");
        holdsIn("!a=1", "10", 0, 1);
        holdsIn("!!a=1", "01", 0, 1);
        holdsIn("!a=1&b=1", "0100", 0, 100, 101, 1);
        holdsIn("!a=1|b=1", "1101", 0, 100, 1, 101);
        isNone("!", "a=1!", "a!=1", "!a", "!|a=1");
        s.says("\"(\" TERMS with \"|\" between \")\"");
        holdsIn("(a=1|b=1)&c=1", "0011", 1, 10000, 10001, 10100);
        holdsIn("a=1&(b=1|c=1)", "0011", 1, 10000, 10001, 101);
        holdsIn("!(a=1|b=1)", "1000", 0, 1, 100, 101);
        holdsIn("((a=1))", "01", 0, 1);
        isNone("()", "(a=1", "a=1)", "(a)=1", "(a=1)=1", "(a=1)b=1", "(a=1)(b=1)", ")a=1(");
        s.says("or a SUM, \"<\", \"=\" or \">\", a SUM");
        holdsIn("a<5", "1100", 0, 4, 5, 6);
        holdsIn("a=5", "0010", 0, 4, 5, 6);
        holdsIn("a>5", "0001", 0, 4, 5, 6);
        holdsIn("5>a", "1100", 0, 4, 5, 6);
        isNone("a", "a=", "=a", "a<=1", "a=1=1", "a<1<2", "1");
    }

    private static void sums() {
        s.says("SUM: UNITS with \"+\" or \"-\" between");
        holdsIn("a-b-c=1", "1100", 1, 10204, 2, 10205);
        holdsIn("a-b+c=1", "1100", 1, 20100, 0, 20102);
        holdsIn("a=b-c+1", "1100", 1, 102, 10001, 100);
        holdsIn("0-1<a-b", "110", 0, 101, 100);
        holdsIn("a-b<0-98", "10", 9900, 9800);
        holdsIn("a+b+c+d+e+f+g+h=99+99+99+99+99+99+99+99", "10", Help.LAST, Help.LAST - 1);
        isNone("+a=1", "-a=1", "a=-1", "a+=1", "a=1-", "a+-b=1", "a++b=1");
        s.says("UNIT: a letter a to h (the SECTOR)");
        long plate = 807060504030201L;
        for (int n = 0; n < 8; n++) {
            holdsIn((char) ('a' + n) + "=" + (n + 1), "10", plate, plate + (long) Math.pow(100, n));
        }
        isNone("i=1", "`=1", "A=1", "H=1", "ab=1", "a1=1", "1a=1");
        s.says("or one or two digits");
        holdsIn("a=0", "10", 0, 1);
        holdsIn("a=00", "10", 0, 1);
        holdsIn("a=07", "10", 7, 70);
        holdsIn("a=9", "10", 9, 90);
        holdsIn("a=10", "10", 10, 1);
        holdsIn("a=99", "10", 99, 98);
        holdsIn("a=99+99-99", "10", 99, 98);
        isNone("a=100", "a=000", "a=", "a=0 ", "a=1 1", "a=/", "a=:");
    }

    private static void steps() {
        s.says("STEPS (8 at most, numbered) of HEALING");
        LeftStates x = new LeftStates();
        for (int n = 0; n < 8; n++) {
            s.due("step", Help.step(x, "a=" + n + ":a=" + (n + 1)), n);
        }
        s.due("a ninth", Help.step(x, "a=8:a=9"), FULL);
        s.due("its letters stay", x.count(3), 7);
        s.due("heal(0)", x.heal(0L), 8);
        s.says("a RULE's text, \":\", a letter, \"=\", a SUM");
        for (String text : new String[] {"a=0", "a=0:", "a=0:b", "a=0:b=", ":b=1", "b=1", "a=0:1=b", "a=0:i=1", "a=0:b<1", "a=0:b=1=1", "a=0:b=1|a=0",
            "a=0:b=!1", "a=0:b=100", "a:b=1", "a=0::b=1", "(a=0:b=1)"}) {
            s.due("step " + text, Help.step(new LeftStates(), text), STATE);
        }
        s.due("step", Help.withSteps("!(a=1|b=1)&c=0:h=99-a+b").heal(0L), 9900000000000000L);
        s.says("if it holds, the SECTOR becomes the SUM (stays, if that is not 0 to 99)");
        LeftStates y = Help.withSteps("c=1:a=a+b", "c=2:a=a-b");
        s.due("it does not hold", y.heal(101L), 101);
        s.due("98 and 1", y.heal(10198L), 10199);
        s.due("99 and 1", y.heal(10199L), 10199);
        s.due("99 and 99", y.heal(19999L), 19999);
        s.due("1 less 1", y.heal(20101L), 20100);
        s.due("0 less 1", y.heal(20100L), 20100);
        s.due("0 less 99", y.heal(29900L), 29900);
        s.says("HEALED: all STEPS done, one behind the other, each by the PLATE as it is then");
        LeftStates z = Help.withSteps("a=1:b=a+1", "b=2:c=b+1", "c=3:a=0", "a=1:d=9");
        s.due("heal(1)", z.heal(1L), 30200);
        s.due("heal(0)", z.heal(0L), 0);
        LeftStates w = Help.withSteps("a=0:d=9", "b=1:a=0");
        s.due("an earlier step is not done again", w.heal(101L), 100);
    }

    private static void cutAndSteady() {
        s.says("CUT: HEALING whose power went behind j STEPS (0 to how many there are; what these laid has reached), "
            + "and which is then begun anew, to its end");
        LeftStates x = Help.withSteps("a=2:b=b+1", "a=1:a=2", "a=2:c=c+1");
        long[] ends = {10002L, 10002L, 10102L, 20102L};
        for (int j = 0; j <= 3; j++) {
            s.due("cut(1, " + j + ")", x.cut(1L, j), ends[j]);
        }
        s.due("cut(1, 4)", x.cut(1L, 4), -1);
        s.due("cut(1, -1)", x.cut(1L, -1), -1);
        s.due("cut(5, 0) without steps", new LeftStates().cut(5L, 0), 5);
        s.due("cut(5, 1) without steps", new LeftStates().cut(5L, 1), -1);
        s.says("STEADY is a PLATE, if each CUT HEALING ends as HEALING does");
        s.due("steady(1)", x.steady(1L), 0);
        s.due("steady(0)", x.steady(0L), 1);
        s.due("without steps", new LeftStates().steady(1L), 1);
        LeftStates first = Help.withSteps("a<2:a=a+1", "a>0:a=5");
        s.due("cut behind the first: as without", first.steady(0L), 1);
        LeftStates early = Help.withSteps("a<2:a=a+1", "a=1:a=5");
        s.due("heal(0)", early.heal(0L), 5);
        s.due("cut(0, 1)", early.cut(0L, 1), 2);
        s.due("cut(0, 2)", early.cut(0L, 2), 5);
        s.due("only the cut behind the first ends elsewhere", early.steady(0L), 0);
        LeftStates last = Help.withSteps("b=1:c=1", "b=0:b=1");
        s.due("cut(0, 1)", last.cut(0L, 1), 100);
        s.due("cut(0, 2)", last.cut(0L, 2), 10100);
        s.due("only the cut behind the last ends elsewhere", last.steady(0L), 0);
        LeftStates round = Help.withSteps("a=1:a=2", "a=0:a=1", "a=1:a=0");
        s.due("heal(0): as at first", round.heal(0L), 0);
        s.due("what lay between two steps heals elsewhere", round.steady(0L), 0);
        s.due("steady(2)", round.steady(2L), 1);
    }

    private static void dueAndBroken() {
        s.says("A RULE is kept ALWAYS, or not (at first)");
        LeftStates x = Help.withRules("a=1", "a=1", "a=1", "a=1", "a=1", "a=1");
        s.due("safe()", x.safe(), 1);
        for (int r = 0; r < 6; r++) {
            s.due("always(" + r + ", true)", x.always(r, true), 0);
            s.due("safe()", x.safe(), 0);
            s.due("always(" + r + ", false)", x.always(r, false), 1);
            s.due("safe()", x.safe(), 1);
        }
        s.says("A RULE is due at k, if it is kept ALWAYS, or one of the first k ACTS TELLS it");
        LeftStates y = Help.withRules("a=1", "a=2");
        y.barrier();
        y.tell(0);
        y.barrier();
        int[] told = {0, 0, 1, 1};
        for (int k = 0; k <= 3; k++) {
            s.due("broken(" + k + ")", y.broken(k), told[k]);
        }
        y.swap(0, 1);
        s.due("broken(0), told by the first act", y.broken(0), 0);
        s.due("broken(1), told by the first act", y.broken(1), 1);
        s.due("shortest(0), told by the first act", y.shortest(0), 1);
        y.swap(1, 2);
        y.always(0, true);
        for (int k = 0; k <= 3; k++) {
            s.due("broken(" + k + ") of one that is kept ALWAYS", y.broken(k), 1);
        }
        y.always(0, false);
        s.due("broken(3): it is told still", y.broken(3), 1);
        y.sector(0, 1);
        s.due("broken(3): the other one is not due", y.broken(3), 0);
        s.says("A PLATE of FOUND(k) is BROKEN, if a RULE that is due at k does not hold in it HEALED");
        LeftStates z = Help.keeping("a=1");
        s.due("broken(0)", z.broken(0), 1);
        Help.step(z, "a=0:a=1");
        s.due("broken(0) that heals", z.broken(0), 0);
        z.sector(0, 1);
        s.due("broken(0)", z.broken(0), 0);
        Help.step(z, "a=1:a=2");
        s.due("broken(0) that held until it was healed", z.broken(0), 1);
        s.says("or it is not STEADY");
        LeftStates w = Help.withSteps("a=0:b=b+1");
        s.due("broken(0) without rules", w.broken(0), 1);
        w.write(0, 1);
        s.due("broken(1): that with a 1 is steady", w.broken(1), 1);
        s.due("found(1)", w.found(1), 2);
    }

    private static void safe() {
        s.says("SAFE: no PLATE of FOUND(0) to FOUND(n) is BROKEN");
        LeftStates none = Help.keeping("a=1");
        s.due("FOUND(0) of no acts", none.safe(), 0);
        LeftStates middle = Help.keeping("!a=1");
        middle.write(0, 1);
        middle.flush();
        middle.write(0, 2);
        middle.flush();
        s.due("broken(0)", middle.broken(0), 0);
        s.due("broken(4)", middle.broken(4), 0);
        s.due("broken in the middle alone", middle.safe(), 0);
        LeftStates last = Help.withRules("a=0");
        last.write(0, 1);
        last.tell(0);
        s.due("broken(1)", last.broken(1), 0);
        s.due("broken behind the last act alone", last.safe(), 0);
        LeftStates first = Help.keeping("a=1");
        first.write(0, 1);
        first.flush();
        s.due("broken(2)", first.broken(2), 0);
        s.due("broken at first", first.safe(), 0);
        first.sector(0, 1);
        s.due("safe()", first.safe(), 1);
        LeftStates apart = Help.keeping("!(a=1&c=1)");
        apart.write(0, 1);
        apart.write(1, 1);
        s.due("safe() of two writes", apart.safe(), 1);
        apart.write(2, 1);
        s.due("broken by the first and the third", apart.safe(), 0);
        LeftStates epochs = Help.keeping("!(a=1&c=1)");
        epochs.write(0, 1);
        epochs.barrier();
        epochs.write(1, 1);
        epochs.barrier();
        s.due("safe() of two epochs", epochs.safe(), 1);
        epochs.write(2, 1);
        s.due("broken by the first epoch and the third", epochs.safe(), 0);
        LeftStates barrier = Help.keeping("h=0");
        barrier.barrier();
        barrier.write(0, 1);
        s.due("safe() with a barrier ahead of all", barrier.safe(), 1);
    }

    /** What is due stays due behind each TELL. */
    private static void safeBehindTells() {
        LeftStates x = Help.withRules("0=0", "a=0", "b=0");
        x.tell(1);
        x.tell(2);
        x.tell(0);
        s.due("safe()", x.safe(), 1);
        x.write(0, 1);
        s.due("broken: the first that was told", x.safe(), 0);
        x.undo();
        x.write(1, 1);
        s.due("broken: the second that was told", x.safe(), 0);
        LeftStates y = Help.keeping("a=0");
        Help.rule(y, "0=0");
        y.tell(1);
        s.due("safe()", y.safe(), 1);
        y.write(0, 1);
        s.due("broken: one that is kept ALWAYS, behind a TELL", y.safe(), 0);
        LeftStates z = Help.withRules("0=0");
        Help.step(z, "a=1:b=b+1");
        z.tell(0);
        s.due("safe()", z.safe(), 1);
        z.write(0, 1);
        s.due("not steady, behind a TELL", z.safe(), 0);
    }

    private static void shortest() {
        s.says("3 THE SHORTEST way to a BROKEN one: the least k");
        LeftStates x = Help.keeping("a<3");
        x.write(1, 1);
        x.write(0, 3);
        x.write(0, 4);
        s.due("shortest(0)", x.shortest(0), 2);
        x.sector(0, 3);
        s.due("shortest(0), broken at first", x.shortest(0), 0);
        s.says("of its BROKEN PLATES the least");
        x.sector(0, 0);
        s.due("shortest(1)", x.shortest(1), 3);
        x.sector(1, 1);
        x.swap(0, 1);
        s.due("shortest(1) behind one act", x.shortest(1), 103);
        LeftStates y = Help.keeping("a+b<3");
        y.write(1, 2);
        y.barrier();
        y.write(0, 1);
        y.write(2, 9);
        s.due("shortest(1): not the least of all, but of the broken ones", y.shortest(1), 201);
        s.says("REACHED for it: of all sets of WRITES that may have reached so (as bits of ACTS, all that reached surely among them) "
            + "and leave it the least as a number");
        s.due("shortest(2): the epoch ahead with it", y.shortest(2), 1 | 4);
        LeftStates z = Help.keeping("!b=7");
        z.write(2, 5);   // 0
        z.flush();       // 1
        z.write(1, 6);   // 2
        z.write(0, 0);   // 3
        z.whole(1, 7, 2, 5);   // 4
        s.due("shortest(0)", z.shortest(0), 5);
        s.due("shortest(1)", z.shortest(1), 50700);
        s.due("shortest(2): what is hidden or no news has not, but what reached surely has", z.shortest(2), 1 | 16);
        LeftStates w = Help.withRules("b=0");
        w.write(1, 7);
        w.write(1, 8);
        w.write(1, 7);
        w.tell(0);
        s.due("shortest(1) of several sets", w.shortest(1), 700);
        s.due("shortest(2): the first alone is less than the last", w.shortest(2), 1);
    }

    private static void asked(LeftStates x, int... due) {
        int[] what = {0, 1, 10, 11, 12, 13, 14, 15, 16};
        for (int i = 0; i < due.length; i++) {
            s.due("fewest(" + what[i] + ")", x.fewest(what[i]), due[i]);
        }
    }

    private static void putBetween() {
        s.says("PUT BETWEEN: behind each ACT but the last nothing, a BARRIER, or a FLUSH more");
        LeftStates x = Help.withRules("a=1");
        x.write(0, 1);
        asked(x, 0, 0, NONE);
        x.tell(0);
        asked(x, 5, 1, 2, NONE);
        x.swap(0, 1);
        asked(x, NONE, NONE, NONE, NONE);
        LeftStates y = Help.withRules("a=1", "0=0");
        y.write(0, 1);
        y.tell(1);
        y.tell(0);
        asked(y, 5, 1, 0, 2, NONE);
        LeftStates z = Help.withRules("a=1");
        z.write(0, 1);
        z.barrier();
        z.tell(0);
        asked(z, 5, 1, 0, 2, NONE);
        z.flush();
        z.swap(1, 3);
        s.due("nothing more than the program has", z.fewest(0), 0);
        s.due("nothing is put", z.fewest(1), 0);
        LeftStates own = Help.keeping("c=0|b=1");
        own.write(0, 1);
        own.barrier();
        own.write(1, 1);
        own.write(2, 1);
        asked(own, 1, 1, 0, 0, 1, NONE);
        own.flush();
        own.swap(1, 4);
        own.undo();
        asked(own, 1, 1, 0, 0, 1, NONE);
        LeftStates twice = Help.withRules("a=2");
        twice.write(0, 1);
        twice.barrier();
        twice.write(0, 2);
        twice.barrier();
        twice.tell(0);
        asked(twice, 5, 1, 0, 0, 0, 2, NONE);
        s.says("FEWEST: so that it is SAFE then");
        LeftStates w = Help.keeping("b=0|a=1");
        w.write(0, 1);
        w.write(1, 1);
        asked(w, 1, 1, 1, NONE);
        w.barrier();
        w.swap(1, 2);
        s.due("safe()", w.safe(), 1);
        asked(w, 0, 0, 0, 0, NONE);
    }

    /** Two barriers keep the order of three writes, or one flush makes the promise at the end true. */
    private static LeftStates chain() {
        LeftStates x = Help.withRules("!a<b&!b<c");
        x.write(0, 1);
        x.write(1, 1);
        x.write(2, 1);
        x.tell(0);
        return x;
    }

    private static void fewest() {
        s.says("of least cost");
        LeftStates x = chain();
        asked(x, 2, 2, 1, 1, 0, NONE);
        x.cost(0, 3);
        asked(x, 5, 1, 0, 0, 2, NONE);
        s.says("(BARRIERS 1 to 9 each, 1 at first; FLUSHES 1 to 99 each, 5 at first)");
        LeftStates y = new LeftStates();
        s.due("cost(0, 1)", y.cost(0, 1), 1);
        s.due("cost(1, 1)", y.cost(1, 1), 5);
        s.due("cost(0, 9)", y.cost(0, 9), 1);
        s.due("cost(1, 99)", y.cost(1, 99), 1);
        s.due("cost(0, 0)", y.cost(0, 0), OUTSIDE);
        s.due("cost(0, 10)", y.cost(0, 10), OUTSIDE);
        s.due("cost(1, 0)", y.cost(1, 0), OUTSIDE);
        s.due("cost(1, 100)", y.cost(1, 100), OUTSIDE);
        LeftStates z = chain();
        z.cost(0, 9);
        z.cost(1, 19);
        asked(z, 18, 2, 1, 1, 0);
        z.cost(1, 99);
        z.undo();
        z.write(3, 1);
        s.due("nothing is due", z.fewest(0), 0);
        s.says("of like ones of fewest put");
        LeftStates w = chain();
        w.cost(1, 2);
        asked(w, 2, 1, 0, 0, 2, NONE);
        w.cost(0, 9);
        w.cost(1, 18);
        asked(w, 18, 1, 0, 0, 2, NONE);
        fewestPutFirst();
    }

    /**
     * Two flushes (behind acts 0 and 3) cost as much as a flush (behind act 1) and two barriers (behind acts 0 and 3), which have
     * less behind the first act: so what is fewest must be asked ahead of that.
     */
    private static void fewestPutFirst() {
        LeftStates x = Help.keeping("(b=0|a=1)&(d=0|c=1)");
        Help.rule(x, "a=1");
        Help.rule(x, "b=1");
        x.write(0, 1);   // 0
        x.write(1, 1);   // 1
        x.tell(1);       // 2
        x.write(2, 1);   // 3
        x.write(3, 1);   // 4
        x.tell(2);       // 5
        x.cost(1, 2);
        asked(x, 4, 2, 2, 0, 0, 2, 0, NONE, NONE);
        x.cost(1, 3);
        s.due("fewest(0), when a flush costs more", x.fewest(0), 5);
        s.due("fewest(1), when a flush costs more", x.fewest(1), 3);
        s.due("fewest(10), when a flush costs more", x.fewest(10), 1);
    }

    private static void likeOnes() {
        s.says("of like ones the one that has, behind the first ACT, the least (0 nothing, 1 a BARRIER, 2 a FLUSH)");
        LeftStates x = Help.keeping("b=0|a=1");
        x.write(0, 1);
        x.write(2, 3);
        x.write(1, 1);
        asked(x, 1, 1, 0, 1, NONE);
        x.cost(1, 1);
        asked(x, 1, 1, 0, 1, NONE);
        LeftStates two = Help.keeping("b=0|a=1");
        two.write(0, 1);
        two.write(1, 1);
        two.cost(1, 1);
        asked(two, 1, 1, 1);
        s.says("then behind the second, ..");
        LeftStates y = Help.keeping("(b=0|a=1)&(d=0|c=1)");
        y.write(0, 1);   // 0
        y.write(1, 1);   // 1
        y.write(4, 1);   // 2
        y.write(2, 1);   // 3
        y.write(5, 1);   // 4
        y.write(6, 1);   // 5
        y.write(3, 1);   // 6
        asked(y, 2, 2, 1, 0, 0, 0, 0, 1, NONE);
        s.says("(8 ACTS at most");
        LeftStates z = Help.keeping("b=0|a=1");
        z.write(0, 1);
        for (int n = 0; n < 6; n++) {
            z.barrier();
        }
        z.write(1, 1);
        asked(z, 0, 0, 0, 0, 0, 0, 0, 0, 0);
        z.barrier();
        s.due("fewest(0) of nine acts", z.fewest(0), STATE);
        s.says("none: there is none)");
        LeftStates none = Help.keeping("a=b");
        none.write(0, 1);
        none.write(1, 1);
        s.due("safe()", none.safe(), 0);
        asked(none, NONE, NONE, NONE, NONE, NONE, NONE, NONE, NONE, NONE);
        LeftStates broken = Help.keeping("a=1");
        s.due("no acts, and broken at first", broken.fewest(0), NONE);
        broken.always(0, false);
        s.due("no acts, and safe", broken.fewest(0), 0);
    }

    private static void needless() {
        s.says("NEEDLESS is one of the WRITES, if without it THE END is the same");
        LeftStates x = new LeftStates();
        x.write(0, 1);
        x.write(0, 2);
        s.due("needless(): what is written over", x.needless(), 1);
        x.sector(0, 2);
        s.due("needless(): the first; without the last the end is another one", x.needless(), 1);
        x.swap(0, 1);
        s.due("needless(): the last one is needed", x.needless(), 1);
        x.sector(0, 1);
        x.undo();
        x.write(1, 0);
        s.due("needless(): what lies there at first", x.needless(), 2);
        x.whole(0, 2, 1, 5);
        s.due("needless(): a WHOLE is needed for one of its numbers", x.needless(), 1 | 2);
        x.write(1, 5);
        s.due("needless(): a WHOLE too", x.needless(), 1 | 2 | 4 | 8);
        x.barrier();
        x.flush();
        s.due("needless(): no BARRIER, no FLUSH", x.needless(), 1 | 2 | 4 | 8);
        s.says("and it is SAFE");
        LeftStates y = Help.keeping("a<2");
        y.write(0, 2);
        y.write(1, 0);
        s.due("needless(): it stays unsafe", y.needless(), 0);
        LeftStates z = Help.keeping("!a=1");
        z.write(0, 1);
        z.write(0, 2);
        z.write(0, 2);
        s.due("safe()", z.safe(), 0);
        s.due("needless(): it is safe without the first alone", z.needless(), 1);
        LeftStates w = Help.keeping("a=0|b=1");
        w.write(1, 1);
        w.barrier();
        w.write(0, 1);
        w.write(1, 1);
        s.due("safe()", w.safe(), 1);
        s.due("needless(): without the first it is not safe", w.needless(), 8);
        LeftStates v = Help.withRules("a=1");
        v.write(0, 1);
        v.flush();
        v.tell(0);
        v.write(0, 1);
        s.due("needless(): the promise needs the first", v.needless(), 8);
    }

    /** A call in which each refusal that it tells has its cause at once, or all but the first ones. */
    private static void first(String what, long want, ToLongFunction<LeftStates> call) {
        s.refused(what, want, call, State.CROWDED);
    }

    private static void refusals() {
        s.says("Refusals, of several the first as told by each call: UNKNOWN (a number names nothing), OUTSIDE (it is not as told), "
            + "STATE (as told), FULL; they change nothing");
        first("sector(8, 100)", UNKNOWN, x -> x.sector(8, 100));
        first("write(8, 100)", UNKNOWN, x -> x.write(8, 100));
        first("write(0, 100)", OUTSIDE, x -> x.write(0, 100));
        first("write(0, 1)", FULL, x -> x.write(0, 1));
        first("whole(8, 100, 8, 100)", UNKNOWN, x -> x.whole(8, 100, 8, 100));
        first("whole(0, 100, 8, 1)", UNKNOWN, x -> x.whole(0, 100, 8, 1));
        first("whole(0, 100, 0, 1)", UNKNOWN, x -> x.whole(0, 100, 0, 1));
        first("whole(0, 1, 1, 100)", OUTSIDE, x -> x.whole(0, 1, 1, 100));
        first("whole(0, 1, 1, 1)", FULL, x -> x.whole(0, 1, 1, 1));
        first("tell(6)", UNKNOWN, x -> x.tell(6));
        first("tell(5)", FULL, x -> x.tell(5));
        first("act(12, 5)", UNKNOWN, x -> x.act(12, 5));
        first("letters(127)", OUTSIDE, x -> x.letters(127L));
        first("letters of a hole", OUTSIDE, x -> x.letters(0x610061L));
        first("letters(97)", FULL, x -> x.letters(97L));
        first("step()", STATE, LeftStates::step);
        first("holds(6, -1)", UNKNOWN, x -> x.holds(6, -1L));
        first("cut(-1, 9)", -2, x -> x.cut(-1L, 9));
        first("kept(6, 13, 2)", UNKNOWN, x -> x.kept(6, 13, 2));
        first("kept(0, 13, 2)", OUTSIDE, x -> x.kept(0, 13, 2));
        first("bounds(8, 13, 2)", UNKNOWN, x -> x.bounds(8, 13, 2));
        first("bounds(0, 13, 2)", OUTSIDE, x -> x.bounds(0, 13, 2));
        first("cost(2, 0)", UNKNOWN, x -> x.cost(2, 0));
        first("fewest(2)", OUTSIDE, x -> x.fewest(2));
        first("fewest(0)", STATE, x -> x.fewest(0));
        first("order(6, 0, 9)", UNKNOWN, x -> x.order(6, 0, 9));
        first("order(0, 0, 8)", UNKNOWN, x -> x.order(0, 0, 8));
        first("order(0, 0, 9)", STATE, x -> x.order(0, 0, 9));
    }
}
