/** Promises 12 to 19, sentence by sentence: letters, and the texts that are read from them. */
public final class TextsTest {
    private static final int UNKNOWN = Help.UNKNOWN, OUTSIDE = Help.OUTSIDE, STATE = Help.STATE, FULL = Help.FULL;
    private static final int LEAST = Integer.MIN_VALUE, MOST = Integer.MAX_VALUE;
    private static final Sentences s = new Sentences();

    public static void main(String[] args) {
        letters();
        lettersRefused();
        blank();
        good();
        rule();
        step();
        bare();
        always();
        holds();
        s.end();
    }

    /** An object with so many letters on its page. */
    private static LeftStates withLetters(int many) {
        LeftStates x = new LeftStates();
        Help.page(x, "a".repeat(many));
        return x;
    }

    private static void letters() {
        s.promise(12);
        s.says("Letters come behind THE PAGE, up to eight, told by their codes in the bytes of w, the lowest byte first");
        LeftStates x = new LeftStates();
        for (int many = 1; many <= 8; many++) {
            LeftStates y = new LeftStates();
            s.due("letters of " + many, y.letters(0x7e01020304050607L >>> 8 * (8 - many)), many);
            s.due("count(3)", y.count(3), many);
        }
        s.due("letters of a<", x.letters(0x3c61L), 2);
        s.due("letters of b", x.letters(0x62L), 3);
        s.due("rule()", x.rule(), 0);
        s.due("holds(0, 100): a<b", x.holds(0, 100L), 1);
        s.due("holds(0, 1): a<b", x.holds(0, 1L), 0);
        s.says("until a byte that is 0: how many THE PAGE has");
        s.due("letters(0)", x.letters(0L), 0);
        s.due("a letter of code 1", x.letters(1L), 1);
        s.due("letters(0)", x.letters(0L), 1);
        s.due("a letter of code 126", x.letters(126L), 2);
        s.due("eight letters of code 126", x.letters(0x7e7e7e7e7e7e7e7eL), 10);
        s.due("letters(0)", x.letters(0L), 10);
        s.due("letters(0) of a page of 60", State.CROWDED.made().letters(0L), 60);
    }

    private static void lettersRefused() {
        s.says("OUTSIDE: a byte above 126");
        for (int at = 0; at < 8; at++) {
            for (long code : new long[] {127L, 128L, 255L}) {
                long w = 0x6161616161616161L & ~(255L << 8 * at) | code << 8 * at;
                s.refused("letters with " + code + " as byte " + at, OUTSIDE, z -> z.letters(w));
                long last = w & (at == 7 ? -1L : (1L << 8 * (at + 1)) - 1);
                s.refused("letters with " + code + " as last byte " + at, OUTSIDE, z -> z.letters(last));
            }
        }
        s.refused("letters(-1)", OUTSIDE, z -> z.letters(-1L));
        s.refused("letters(least)", OUTSIDE, z -> z.letters(Long.MIN_VALUE));
        s.refused("letters(most)", OUTSIDE, z -> z.letters(Long.MAX_VALUE));
        s.says("or one behind a 0 that is not 0");
        for (int at = 0; at < 7; at++) {
            long hole = 0x6161616161616161L & ~(255L << 8 * at);
            s.refused("letters with a 0 as byte " + at, OUTSIDE, z -> z.letters(hole));
            long far = 1L << 56 | (1L << 8 * at) - 1 & 0x6161616161616161L;
            s.refused("letters with 0 from byte " + at + " up to the last", OUTSIDE, z -> z.letters(far));
        }
        s.says("FULL: above 60");
        LeftStates x = withLetters(52);
        s.due("8 behind 52", x.letters(0x6161616161616161L), 60);
        s.refused("one more", FULL, z -> z.letters(0x61L), State.CROWDED);
        s.refused("eight more", FULL, z -> z.letters(0x6161616161616161L), State.CROWDED);
        for (int more = 1; more <= 8; more++) {
            long w = 0x6161616161616161L >>> 8 * (8 - more);
            int had = 61 - more;
            s.refused(more + " more", FULL, z -> z.letters(w), new State("one with " + had, () -> withLetters(had)));
            s.due(more + " behind " + (had - 1), withLetters(had - 1).letters(w), 60);
        }
    }

    private static void blank() {
        s.promise(13);
        s.says("THE PAGE is empty: how many letters it had");
        LeftStates x = new LeftStates();
        s.due("blank()", x.blank(), 0);
        Help.page(x, "a=b");
        s.due("blank()", x.blank(), 3);
        s.due("count(3)", x.count(3), 0);
        s.due("good(0)", x.good(0), 0);
        s.due("rule()", x.rule(), STATE);
        s.due("blank()", x.blank(), 0);
        Help.page(x, "c=1");
        s.due("rule(): only what came later is read", x.rule(), 0);
        s.due("holds(0, 10000)", x.holds(0, 10000L), 1);
        LeftStates y = State.CROWDED.made();
        s.due("blank() of 60", y.blank(), 60);
        s.due("letters()", y.letters(0x6161616161616161L), 8);
    }

    private static void goodOf(String text, int asRule, int asStep) {
        LeftStates x = new LeftStates();
        Help.page(x, text);
        s.due("good(0) of " + text, x.good(0), asRule);
        s.due("good(1) of " + text, x.good(1), asStep);
        s.due("count(3) behind good()", x.count(3), text.length());
    }

    private static void good() {
        s.promise(14);
        s.says("How many letters of THE PAGE begin some text of a RULE (sort 0), a STEP (1)");
        String[] texts = {"", "a", "h", "i", "`", "0", "9", "/", ":", "123", "12a", "a=", "a=b", "a=b=c", "a<b>c", "a=b|", "a=b||", "a=b&!",
            "!!!", "((", "(a)", "(a=b)", "(a=b))", "((a=b)&c<1|d>22)", "a+b-c", "a+", "a++", "+a", "-1", "a=-1", "a=1+(", "a=b!", "a=b(",
            "(a=b)+1", "(a=b)=c", "()", "a =b", "a=b ", "A=1", "ab", "a1", "1a", "!a", "a|b", "a&b", "a=b)", "(a=b)(", "(a=b)!", "!)",
            "a=1&|", "a<=b", "a==b", "a=12", "a=123", "a=1b", "a=b1", "a=b+1=c", "!(!a=b|c=d)&e"};
        int[] good = {0, 1, 1, 0, 0, 1, 1, 0, 0, 2, 2, 2, 3, 3, 3, 4, 4, 5,
            3, 2, 2, 5, 5, 16, 5, 2, 2, 0, 0, 2, 4, 3, 3,
            5, 5, 1, 1, 3, 0, 1, 1, 1, 2, 1, 1, 3, 5, 5, 1,
            4, 2, 2, 4, 4, 3, 3, 5, 13};
        for (int i = 0; i < texts.length; i++) {
            goodOf(texts[i], good[i], good[i]);
        }
        String[] steps = {"a=1:", "a=12:h=99+a-b", "a=1:i", "a=1:h<", "a=1:h=", "a=1:h=a:", "a=1:h=a=b", "(a=1:", "a:", "a=1:h=123", "a=1:hh",
            "a=1:h=a&b=1", "!(a=1)&!b=2:c=3", "a=1::", "a=1:1", "a=1:h=+", "a=1:h=a+", "a=1:h=(", "(a=1):h=1)", "a=1:h=1:a=1", "a=1:a=i", "(a=1|b=2):a"};
        int[] asRule = {3, 4, 3, 3, 3, 3, 3, 4, 1, 3, 3, 3, 11, 3, 3, 3, 3, 3, 5, 3, 3, 9};
        int[] asStep = {4, 13, 4, 5, 6, 7, 7, 4, 1, 8, 5, 7, 15, 4, 4, 6, 8, 6, 9, 7, 6, 11};
        for (int i = 0; i < steps.length; i++) {
            goodOf(steps[i], asRule[i], asStep[i]);
        }
        s.says("of any length");
        goodOf("(".repeat(60), 60, 60);
        goodOf("!".repeat(60), 60, 60);
        goodOf("a=1|".repeat(15), 60, 60);
        goodOf("(".repeat(29) + "a=1" + ")".repeat(28), 60, 60);
        goodOf("a=1|".repeat(14) + "a=1:", 59, 60);
        s.says("OUTSIDE");
        for (int sort : new int[] {-1, 2, LEAST, MOST}) {
            s.refused("good(" + sort + ")", OUTSIDE, z -> z.good(sort));
        }
    }

    private static void rule() {
        s.promise(15);
        s.says("THE PAGE is read as a RULE: its number; THE PAGE is empty then");
        LeftStates x = new LeftStates();
        String[] texts = {"a=b", "(".repeat(28) + "a<99" + ")".repeat(28), "!".repeat(57) + "a=1", "a=1|".repeat(14) + "b=22", "0=0", "a=5"};
        for (int n = 0; n < texts.length; n++) {
            Help.page(x, texts[n]);
            s.due("rule() of " + texts[n], x.rule(), n);
            s.due("count(3)", x.count(3), 0);
            s.due("count(1)", x.count(1), n + 1);
            s.due("always", x.always(n, false), 0);
        }
        s.due("28 brackets, a is 98", x.holds(1, 98L), 1);
        s.due("28 brackets, a is 99", x.holds(1, 99L), 0);
        s.due("57 !, a is 1", x.holds(2, 1L), 0);
        s.due("57 !, a is 0", x.holds(2, 0L), 1);
        s.due("15 terms, the last holds", x.holds(3, 2200L), 1);
        s.due("15 terms, none holds", x.holds(3, 2100L), 0);
        ruleBehindOthers();
        minuses();
        LeftStates asked = new LeftStates();
        asked.write(0, 1);
        s.due("safe() without rules", asked.safe(), 1);
        s.due("broken(1) without rules", asked.broken(1), 0);
        Help.rule(asked, "a=0");
        asked.always(0, true);
        s.due("safe() with a rule that came later", asked.safe(), 0);
        s.due("broken(1) with a rule that came later", asked.broken(1), 1);
        s.due("kept(0, 1, 1) of a rule that came later", asked.kept(0, 1, 1), 1);
        s.says("STATE: it is none");
        s.refused("rule() of no letters", STATE, LeftStates::rule, State.NEW);
        s.refused("rule() of a=b:", STATE, LeftStates::rule, State.MIDDLE);
        for (String text : new String[] {"a", "a=", "a=b|", "a=b&", "(a=b", "a=b)", "a=b:c=d", "a=123", "!", "a=b=c", "a=b+", "i=1", "=1", "(a)=1",
            "a=b ", " a=b", "()", "!()", "a=1|".repeat(15), "(".repeat(60), "aa=1", "a=1b", "A=1", "a~1"}) {
            State with = new State("one with " + text, () -> {
                LeftStates z = Help.withRules("a=0");
                Help.page(z, text);
                return z;
            });
            s.refused("rule()", STATE, LeftStates::rule, with);
        }
        s.says("FULL");
        s.refused("rule() when there are six", FULL, LeftStates::rule, State.CROWDED);
        LeftStates y = State.CROWDED.made();
        y.blank();
        s.due("no letters, when there are six", y.rule(), STATE);
        Help.page(y, "a=b&");
        s.due("no rule, when there are six", y.rule(), STATE);
        s.due("the letters stay", y.blank(), 4);
    }

    /** What is read does not hang on what was read before it, whether that was a text or not. */
    private static void ruleBehindOthers() {
        String[] before = {"((", "!", "!(a=1&b=2|", "a=1&", "a=1|", "a=1-", "a-b", "a=b-c", "a=b-c|d", "a=1)", "12", "a=1:b=2-c", "a<1", "!!a>1"};
        for (String text : before) {
            LeftStates x = new LeftStates();
            Help.page(x, text);
            x.good(0);
            x.good(1);
            x.blank();
            s.due("a rule behind " + text, Help.rule(x, "a=b"), 0);
            s.due("holds(0, 0) behind " + text, x.holds(0, 0L), 1);
            s.due("holds(0, 1) behind " + text, x.holds(0, 1L), 0);
            s.due("no rule behind " + text, Help.rule(x, "a=b)"), STATE);
            x.blank();
            Help.page(x, text);
            x.good(1);
            s.due("a step behind " + text, Help.step(x, "a=b:c=d+1"), 0);
            s.due("heal(0) behind " + text, x.heal(0L), 10000);
        }
    }

    /** A "-" reaches no further than the unit behind it. */
    private static void minuses() {
        LeftStates x = Help.withRules("a=b-c|d=1", "a-b=c", "a=b-c&d=1", "a-b<c-d");
        s.due("holds(0, d 1, a 9)", x.holds(0, 1000009L), 1);
        s.due("holds(0, a 9)", x.holds(0, 9L), 0);
        s.due("holds(1, a 3, b 2, c 1)", x.holds(1, 10203L), 1);
        s.due("holds(1, a 3, b 2, c 5)", x.holds(1, 50203L), 0);
        s.due("holds(2, a 1, b 2, c 1, d 1)", x.holds(2, 1010201L), 1);
        s.due("holds(3, a 1, b 1, c 2, d 1)", x.holds(3, 1020101L), 1);
        s.due("holds(3, a 2, b 1, c 2, d 1)", x.holds(3, 1020102L), 0);
        LeftStates y = Help.withSteps("a=b-c:d=7+a", "a-b>c:e=9");
        s.due("heal(a 1, b 2, c 1)", y.heal(10201L), 8010201L);
        s.due("heal(a 9)", y.heal(9L), 900000009L);
    }

    private static void step() {
        s.promise(16);
        s.says("THE PAGE is read as a STEP: its number; THE PAGE is empty then");
        LeftStates x = new LeftStates();
        String[] texts = {"a=0:b=0+1", "(".repeat(25) + "b=1" + ")".repeat(25) + ":c=a+2", "!b=1:a=9", "c=2|a=9:d=0+1+1+1", "d=3:e=4", "e=4:f=5", "f=5:g=6",
            "g=6:h=99-92"};
        for (int n = 0; n < texts.length; n++) {
            Help.page(x, texts[n]);
            s.due("step() of " + texts[n], x.step(), n);
            s.due("count(3)", x.count(3), 0);
            s.due("count(2)", x.count(2), n + 1);
        }
        s.due("heal(0)", x.heal(0L), 706050403020100L);
        LeftStates y = new LeftStates();
        String longest = "a=1|".repeat(13) + "b=2:c=33";
        s.due("letters", Help.page(y, longest), 60);
        s.due("step() of 60 letters", y.step(), 0);
        s.due("heal(200)", y.heal(200L), 330200L);
        s.says("STATE: it is none");
        s.refused("step() of no letters", STATE, LeftStates::step, State.NEW);
        s.refused("step() of a=b:", STATE, LeftStates::step, State.MIDDLE);
        for (String text : new String[] {"a=b", "a=b:c", "a=b:c=", "a=b:c=d+", "a=b:i=1", "a=b:c=d|a=b", "a=b:c=100", "(a=b:c=1)", "a=b:c<1", "a=b:1=c",
            "a:b=c", ":b=c", "a=b:c=-1", "a=b:c=(1)", "a=b:c=1:d=1", "a=b::c=1", "a=b:c==1", "(a=b:c=1", "a=b):c=1", "a=b:c=1 "}) {
            State with = new State("one with " + text, () -> {
                LeftStates z = Help.withSteps("a=0:a=1");
                Help.page(z, text);
                return z;
            });
            s.refused("step()", STATE, LeftStates::step, with);
        }
        s.says("FULL");
        State eight = new State("one with eight steps", () -> {
            LeftStates z = State.CROWDED.made();
            z.blank();
            Help.page(z, "a=0:b=0");
            return z;
        });
        s.refused("step() when there are eight", FULL, LeftStates::step, eight);
        s.refused("no step, when there are eight", STATE, LeftStates::step, State.CROWDED);
    }

    private static void bare() {
        s.promise(17);
        s.says("No STEPS: how many there were");
        LeftStates x = new LeftStates();
        s.due("bare()", x.bare(), 0);
        Help.step(x, "a=0:a=9");
        Help.step(x, "a=9:b=9");
        s.due("heal(0)", x.heal(0L), 909);
        s.due("bare()", x.bare(), 2);
        s.due("heal(0)", x.heal(0L), 0);
        s.due("count(2)", x.count(2), 0);
        s.due("cut(0, 1)", x.cut(0L, 1), -1);
        s.due("bare()", x.bare(), 0);
        s.due("step", Help.step(x, "a=0:c=1"), 0);
        s.due("heal(0)", x.heal(0L), 10000);
        LeftStates y = State.CROWDED.made();
        s.due("bare() of eight", y.bare(), 8);
        s.due("the rules stay", y.count(1), 6);
        s.due("step behind bare()", Help.step(y, "a=0:c=1"), 0);
        LeftStates z = Help.keeping("a=1");
        Help.step(z, "a=0:a=1");
        s.due("safe() healed", z.safe(), 1);
        z.bare();
        s.due("safe() behind bare()", z.safe(), 0);
    }

    private static void always() {
        s.promise(18);
        s.says("A RULE is kept ALWAYS, or not: 1 if it was, else 0");
        LeftStates x = Help.withRules("a=1", "a=0", "0=0", "0=0", "0=0", "a=2");
        s.due("safe()", x.safe(), 1);
        s.due("always(0, false)", x.always(0, false), 0);
        s.due("always(0, true)", x.always(0, true), 0);
        s.due("always(1, true)", x.always(1, true), 0);
        s.due("safe()", x.safe(), 0);
        s.due("always(0, true)", x.always(0, true), 1);
        s.due("always(0, false)", x.always(0, false), 1);
        s.due("always(0, false)", x.always(0, false), 0);
        s.due("always(1, true)", x.always(1, true), 1);
        s.due("safe()", x.safe(), 1);
        s.due("always(5, true)", x.always(5, true), 0);
        s.due("broken(0)", x.broken(0), 1);
        s.due("always(5, false)", x.always(5, false), 1);
        s.due("broken(0)", x.broken(0), 0);
        s.says("UNKNOWN");
        s.refused("always(0, true)", UNKNOWN, z -> z.always(0, true), State.NEW);
        s.refused("always(2, true)", UNKNOWN, z -> z.always(2, true), State.MIDDLE);
        for (int r : new int[] {-1, 6, 31, 32, 33, LEAST, MOST}) {
            s.refused("always(" + r + ", true)", UNKNOWN, z -> z.always(r, true));
            s.refused("always(" + r + ", false)", UNKNOWN, z -> z.always(r, false));
        }
    }

    private static void holds() {
        s.promise(19);
        s.says("Whether a RULE holds in a PLATE");
        String[] texts = {"a=1|b=1&c=1", "(a=1|b=1)&c=1", "!a=1&b=0", "!(a=1&b=0)", "!!a=1", "a-b=b-a", "a-1-1=b", "a-b-c<0-1", "h>g+98", "99-99=a"};
        long[][] plates = {{1, 100, 10100}, {10001, 1, 10100}, {0, 1, 100}, {1, 0, 101}, {1, 0, 101}, {0, 101, 100}, {2, 0, 103}, {100, 10100, 3},
            {9900000000000000L, 9901000000000000L, 9800000000000000L}, {0, 1, 9900}};
        int[][] is = {{1, 0, 1}, {1, 0, 1}, {1, 0, 0}, {0, 1, 1}, {1, 0, 1}, {1, 1, 0}, {1, 0, 1}, {0, 1, 0}, {1, 0, 0}, {1, 0, 1}};
        for (int i = 0; i < texts.length; i++) {
            LeftStates x = Help.withRules(texts[i]);
            for (int j = 0; j < 3; j++) {
                s.due(texts[i] + " in " + plates[i][j], x.holds(0, plates[i][j]), is[i][j]);
            }
        }
        LeftStates six = Help.withRules("a=0", "a=1", "a=2", "a=3", "a=4", "a=5");
        for (int r = 0; r < 6; r++) {
            s.due("holds(" + r + ", 5)", six.holds(r, 5L), r == 5 ? 1 : 0);
        }
        s.says("(as a number of base 100; 0 to 9999999999999999): 1, 0");
        LeftStates x = Help.withRules("h=99&a=99", "h=0&a=0");
        s.due("holds(0, the last)", x.holds(0, Help.LAST), 1);
        s.due("holds(1, the last)", x.holds(1, Help.LAST), 0);
        s.due("holds(0, 0)", x.holds(0, 0L), 0);
        s.due("holds(1, 0)", x.holds(1, 0L), 1);
        s.says("UNKNOWN");
        s.refused("holds(0, 0)", UNKNOWN, z -> z.holds(0, 0L), State.NEW);
        s.refused("holds(2, 0)", UNKNOWN, z -> z.holds(2, 0L), State.MIDDLE);
        for (int r : new int[] {-1, 6, LEAST, MOST}) {
            s.refused("holds(" + r + ", 0)", UNKNOWN, z -> z.holds(r, 0L));
            s.refused("holds(" + r + ", -1)", UNKNOWN, z -> z.holds(r, -1L));
        }
        s.says("OUTSIDE");
        for (long p : new long[] {-1L, Help.LAST + 1, Long.MIN_VALUE, Long.MAX_VALUE}) {
            s.refused("holds(0, " + p + ")", OUTSIDE, z -> z.holds(0, p), State.MIDDLE, State.CROWDED);
        }
    }
}
