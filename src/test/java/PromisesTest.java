import java.util.function.LongSupplier;

/** Each promise of the document: ordinary inputs, the edges that it names, and wrong inputs. */
public final class PromisesTest {
    private static final int NONE = -1, UNKNOWN = -101, OUTSIDE = -102, STATE = -103, FULL = -104;
    private static final long LAST = 9999999999999999L;
    private static int wrong = 0;
    private static int looked = 0;
    private static int promise = 0;

    public static void main(String[] args) {
        newObject();
        sector();
        write();
        whole();
        barrierAndFlush();
        tell();
        undo();
        swap();
        act();
        end();
        letters();
        blank();
        good();
        rule();
        step();
        bare();
        always();
        holds();
        found();
        plate();
        heal();
        cut();
        steady();
        kept();
        broken();
        bounds();
        safe();
        shortest();
        cost();
        fewest();
        fewestRefusals();
        needless();
        order();
        count();
        digest();
        System.out.println(looked + " looks, " + wrong + " wrong");
        if (wrong != 0) {
            System.exit(1);
        }
    }

    private static void due(String what, long got, long want) {
        looked++;
        if (got != want) {
            wrong++;
            System.out.println("promise " + promise + ": " + what + " answered " + got + ", due is " + want);
        }
    }

    /** A refusal, and that it changes nothing. */
    private static void refused(LeftStates x, String what, long want, LongSupplier call) {
        long before = x.digest();
        due(what, call.getAsLong(), want);
        due("digest() behind the refused " + what, x.digest(), before);
    }

    /** The text's letters behind the page. */
    private static int page(LeftStates x, String text) {
        int size = x.count(3);
        for (int i = 0; i < text.length(); i += 8) {
            long w = 0L;
            for (int j = Math.min(text.length(), i + 8) - 1; j >= i; j--) {
                w = w << 8 | text.charAt(j);
            }
            size = x.letters(w);
        }
        return size;
    }

    private static int rule(LeftStates x, String text) {
        x.blank();
        page(x, text);
        return x.rule();
    }

    private static int step(LeftStates x, String text) {
        x.blank();
        page(x, text);
        return x.step();
    }

    private static int good(String text, int sort) {
        LeftStates x = new LeftStates();
        page(x, text);
        return x.good(sort);
    }

    /** A new object with one rule that is kept ALWAYS. */
    private static LeftStates kept(String text) {
        LeftStates x = new LeftStates();
        due("rule " + text, rule(x, text), 0);
        x.always(0, true);
        return x;
    }

    private static void newObject() {
        promise = 1;
        LeftStates x = new LeftStates();
        for (int what = 0; what <= 6; what++) {
            due("count(" + what + ")", x.count(what), 0);
        }
        due("end()", x.end(), 0);
        due("found(0)", x.found(0), 1);
        due("safe()", x.safe(), 1);
        due("cost(0, 1)", x.cost(0, 1), 1);
        due("cost(1, 5)", x.cost(1, 5), 5);
    }

    private static void sector() {
        promise = 2;
        LeftStates x = new LeftStates();
        due("sector(0, 99)", x.sector(0, 99), 0);
        due("sector(0, 3)", x.sector(0, 3), 99);
        due("sector(7, 99)", x.sector(7, 99), 0);
        due("sector(7, 98)", x.sector(7, 98), 99);
        due("plate(0, 0)", x.plate(0, 0), 9800000000000003L);
        due("sector(7, 0)", x.sector(7, 0), 98);
        refused(x, "sector(-1, 1)", UNKNOWN, () -> x.sector(-1, 1));
        refused(x, "sector(8, 1)", UNKNOWN, () -> x.sector(8, 1));
        refused(x, "sector(8, 100)", UNKNOWN, () -> x.sector(8, 100));
        refused(x, "sector(1, 100)", OUTSIDE, () -> x.sector(1, 100));
        refused(x, "sector(1, -1)", OUTSIDE, () -> x.sector(1, -1));
    }

    private static void write() {
        promise = 3;
        LeftStates x = new LeftStates();
        due("write(0, 0)", x.write(0, 0), 0);
        due("write(7, 99)", x.write(7, 99), 1);
        refused(x, "write(-1, 0)", UNKNOWN, () -> x.write(-1, 0));
        refused(x, "write(8, -1)", UNKNOWN, () -> x.write(8, -1));
        refused(x, "write(0, -1)", OUTSIDE, () -> x.write(0, -1));
        refused(x, "write(0, 100)", OUTSIDE, () -> x.write(0, 100));
        for (int n = 2; n < 12; n++) {
            due("write(1, n)", x.write(1, n), n);
        }
        refused(x, "write(1, 1)", FULL, () -> x.write(1, 1));
        refused(x, "write(8, 1) when full", UNKNOWN, () -> x.write(8, 1));
        refused(x, "write(1, 100) when full", OUTSIDE, () -> x.write(1, 100));
    }

    private static void whole() {
        promise = 4;
        LeftStates x = new LeftStates();
        due("whole(0, 1, 7, 99)", x.whole(0, 1, 7, 99), 0);
        due("found(1)", x.found(1), 2);
        due("plate(1, 1)", x.plate(1, 1), 9900000000000001L);
        refused(x, "whole(-1, 1, 2, 3)", UNKNOWN, () -> x.whole(-1, 1, 2, 3));
        refused(x, "whole(8, 1, 2, 3)", UNKNOWN, () -> x.whole(8, 1, 2, 3));
        refused(x, "whole(2, 1, 8, 3)", UNKNOWN, () -> x.whole(2, 1, 8, 3));
        refused(x, "whole(2, 1, -1, 3)", UNKNOWN, () -> x.whole(2, 1, -1, 3));
        refused(x, "whole(2, 1, 2, 100)", UNKNOWN, () -> x.whole(2, 1, 2, 100));
        refused(x, "whole(2, 100, 1, 3)", OUTSIDE, () -> x.whole(2, 100, 1, 3));
        refused(x, "whole(2, 1, 1, -1)", OUTSIDE, () -> x.whole(2, 1, 1, -1));
        refused(x, "whole(2, -1, 1, 1)", OUTSIDE, () -> x.whole(2, -1, 1, 1));
        refused(x, "whole(2, 1, 1, 100)", OUTSIDE, () -> x.whole(2, 1, 1, 100));
        for (int n = 1; n < 12; n++) {
            due("whole", x.whole(n % 8, 1, (n + 1) % 8, 1), n);
        }
        refused(x, "whole(0, 1, 1, 1)", FULL, () -> x.whole(0, 1, 1, 1));
        refused(x, "whole(0, 1, 1, 100) when full", OUTSIDE, () -> x.whole(0, 1, 1, 100));
    }

    private static void barrierAndFlush() {
        LeftStates x = new LeftStates();
        for (int n = 0; n < 12; n += 2) {
            promise = 5;
            due("barrier()", x.barrier(), n);
            promise = 6;
            due("flush()", x.flush(), n + 1);
        }
        promise = 5;
        refused(x, "barrier()", FULL, x::barrier);
        promise = 6;
        refused(x, "flush()", FULL, x::flush);
    }

    private static void tell() {
        promise = 7;
        LeftStates x = new LeftStates();
        refused(x, "tell(0)", UNKNOWN, () -> x.tell(0));
        rule(x, "a=0");
        due("tell(0)", x.tell(0), 0);
        refused(x, "tell(1)", UNKNOWN, () -> x.tell(1));
        refused(x, "tell(-1)", UNKNOWN, () -> x.tell(-1));
        rule(x, "a=1");
        due("tell(1)", x.tell(1), 1);
        due("broken(1)", x.broken(1), 0);
        due("broken(2)", x.broken(2), 1);
        for (int n = 2; n < 12; n++) {
            due("tell(0)", x.tell(0), n);
        }
        refused(x, "tell(0) when full", FULL, () -> x.tell(0));
        refused(x, "tell(2) when full", UNKNOWN, () -> x.tell(2));
    }

    private static void undo() {
        promise = 8;
        LeftStates x = new LeftStates();
        refused(x, "undo()", STATE, x::undo);
        x.write(0, 1);
        x.write(0, 2);
        due("undo()", x.undo(), 1);
        due("end()", x.end(), 1);
        due("found(1)", x.found(1), 2);
        due("undo()", x.undo(), 0);
        refused(x, "undo()", STATE, x::undo);
        due("write(1, 3)", x.write(1, 3), 0);
        due("end()", x.end(), 300);
    }

    private static void swap() {
        promise = 9;
        LeftStates x = new LeftStates();
        refused(x, "swap(0, 0)", UNKNOWN, () -> x.swap(0, 0));
        x.write(0, 1);
        x.whole(0, 2, 3, 4);
        x.barrier();
        due("end()", x.end(), 4000002L);
        due("swap(0, 1)", x.swap(0, 1), 1);
        due("end()", x.end(), 4000001L);
        due("act(0, 4)", x.act(0, 4), 4);
        due("act(1, 4)", x.act(1, 4), NONE);
        due("swap(2, 0)", x.swap(2, 0), 1);
        due("act(0, 0)", x.act(0, 0), 2);
        due("act(2, 0)", x.act(2, 0), 1);
        long before = x.digest();
        due("swap(1, 1)", x.swap(1, 1), 1);
        due("digest()", x.digest(), before);
        refused(x, "swap(0, 3)", UNKNOWN, () -> x.swap(0, 3));
        refused(x, "swap(3, 0)", UNKNOWN, () -> x.swap(3, 0));
        refused(x, "swap(-1, 0)", UNKNOWN, () -> x.swap(-1, 0));
        refused(x, "swap(0, -1)", UNKNOWN, () -> x.swap(0, -1));
    }

    private static void act() {
        promise = 10;
        LeftStates x = new LeftStates();
        rule(x, "a=0");
        rule(x, "b=0");
        x.write(3, 33);
        x.whole(4, 44, 5, 55);
        x.barrier();
        x.flush();
        x.tell(1);
        int[][] told = {{0, 3, 33, -1, -1}, {1, 4, 44, 5, 55}, {2, -1, -1, -1, -1}, {3, -1, -1, -1, -1}, {4, 1, -1, -1, -1}};
        for (int i = 0; i < 5; i++) {
            for (int what = 0; what < 5; what++) {
                due("act(" + i + ", " + what + ")", x.act(i, what), told[i][what]);
            }
        }
        refused(x, "act(5, 0)", UNKNOWN, () -> x.act(5, 0));
        refused(x, "act(-1, 9)", UNKNOWN, () -> x.act(-1, 9));
        refused(x, "act(0, 5)", OUTSIDE, () -> x.act(0, 5));
        refused(x, "act(0, -1)", OUTSIDE, () -> x.act(0, -1));
        x.undo();
        x.write(0, 7);
        due("act(4, 1)", x.act(4, 1), 0);
        due("act(4, 2)", x.act(4, 2), 7);
    }

    private static void end() {
        promise = 11;
        LeftStates x = new LeftStates();
        x.sector(6, 12);
        due("end()", x.end(), 12000000000000L);
        x.write(7, 99);
        x.barrier();
        x.whole(0, 1, 6, 2);
        x.write(0, 5);
        due("end()", x.end(), 9902000000000005L);
    }

    private static void letters() {
        promise = 12;
        LeftStates x = new LeftStates();
        due("letters(0)", x.letters(0L), 0);
        due("letters of one", x.letters(126L), 1);
        due("letters of eight", x.letters(0x7e01020304050607L), 9);
        refused(x, "a byte 127", OUTSIDE, () -> x.letters(127L));
        refused(x, "a byte 255", OUTSIDE, () -> x.letters(255L));
        refused(x, "a high byte 128", OUTSIDE, () -> x.letters(0x8061616161616161L));
        refused(x, "a byte behind a 0", OUTSIDE, () -> x.letters(0x610061L));
        refused(x, "a first byte that is 0", OUTSIDE, () -> x.letters(0x6100L));
        refused(x, "the last byte behind a 0", OUTSIDE, () -> x.letters(0x6100000000000061L));
        refused(x, "-1", OUTSIDE, () -> x.letters(-1L));
        x.blank();
        for (int n = 8; n <= 56; n += 8) {
            due("letters", x.letters(0x6161616161616161L), n);
        }
        refused(x, "five above 56", FULL, () -> x.letters(0x6161616161L));
        refused(x, "127 above 60", OUTSIDE, () -> x.letters(0x617f616161616161L));
        due("letters", x.letters(0x61616161L), 60);
        refused(x, "one above 60", FULL, () -> x.letters(0x61L));
        due("letters(0)", x.letters(0L), 60);
    }

    private static void blank() {
        promise = 13;
        LeftStates x = new LeftStates();
        due("blank()", x.blank(), 0);
        page(x, "a=b");
        due("blank()", x.blank(), 3);
        due("blank()", x.blank(), 0);
        due("count(3)", x.count(3), 0);
        due("rule()", x.rule(), STATE);
    }

    private static void good() {
        promise = 14;
        String[] texts = {"", "a", "i", "9", "123", "12a", "a=", "a=b", "a=b=c", "a<b>c", "a=b|", "a=b||", "a=b&!", "!!!", "((",
            "(a)", "(a=b)", "(a=b))", "((a=b)&c<1|d>22)", "a+b-c", "a+", "a++", "+a", "-1", "a=-1", "a=1+(", "a=b!", "a=b(",
            "(a=b)+1", "(a=b)=c", "()", "a =b", "a=b ", "a=1:", "a=12:h=99+a-b", "a=1:i", "a=1:h<", "a=1:h=", "a=1:h=a:", "a=1:h=a=b",
            "(a=1:", ":", "a:", "a=1:h=123", "a=1:hh", "a=1:h=a&b=1", "A=1", "ab", "a1", "1a", "!a", "!(a=1)&!b=2:c=3"};
        int[] rules = {0, 1, 0, 1, 2, 2, 2, 3, 3, 3, 4, 4, 5, 3, 2,
            2, 5, 5, 16, 5, 2, 2, 0, 0, 2, 4, 3, 3,
            5, 5, 1, 1, 3, 3, 4, 3, 3, 3, 3, 3,
            4, 0, 1, 3, 3, 3, 0, 1, 1, 1, 2, 11};
        int[] steps = {0, 1, 0, 1, 2, 2, 2, 3, 3, 3, 4, 4, 5, 3, 2,
            2, 5, 5, 16, 5, 2, 2, 0, 0, 2, 4, 3, 3,
            5, 5, 1, 1, 3, 4, 13, 4, 5, 6, 7, 7,
            4, 0, 1, 8, 5, 7, 0, 1, 1, 1, 2, 15};
        for (int i = 0; i < texts.length; i++) {
            due("good(0) of " + texts[i], good(texts[i], 0), rules[i]);
            due("good(1) of " + texts[i], good(texts[i], 1), steps[i]);
        }
        due("good(0) of 60 brackets", good("(".repeat(60), 0), 60);
        due("good(1) of 60 !", good("!".repeat(60), 1), 60);
        LeftStates x = new LeftStates();
        page(x, "a=b");
        refused(x, "good(2)", OUTSIDE, () -> x.good(2));
        refused(x, "good(-1)", OUTSIDE, () -> x.good(-1));
        due("count(3)", x.count(3), 3);
        due("rule() behind good()", x.rule(), 0);
    }

    private static void rule() {
        promise = 15;
        LeftStates x = new LeftStates();
        refused(x, "rule() of nothing", STATE, x::rule);
        for (String text : new String[] {"a", "a=", "a=b|", "(a=b", "a=b)", "a=b:c=d", "a=123", "!", "a=b=c", "a=b+", "a=b&", "i=1"}) {
            x.blank();
            page(x, text);
            refused(x, "rule() of " + text, STATE, x::rule);
            due("count(3) behind " + text, x.count(3), text.length());
        }
        due("rule", rule(x, "a=b"), 0);
        due("count(3)", x.count(3), 0);
        String longest = "(".repeat(28) + "a<99" + ")".repeat(28);
        due("a rule of 60 letters", rule(x, longest), 1);
        due("holds(1, 98)", x.holds(1, 98L), 1);
        due("holds(1, 99)", x.holds(1, 99L), 0);
        due("a rule of 57 !", rule(x, "!".repeat(57) + "a=1"), 2);
        due("holds(2, 1)", x.holds(2, 1L), 0);
        due("holds(2, 0)", x.holds(2, 0L), 1);
        for (int n = 3; n < 6; n++) {
            due("rule", rule(x, "a=" + n), n);
        }
        page(x, "a=b");
        refused(x, "rule() when there are six", FULL, x::rule);
        due("count(3)", x.count(3), 3);
        page(x, "&");
        refused(x, "no rule when there are six", STATE, x::rule);
    }

    private static void step() {
        promise = 16;
        LeftStates x = new LeftStates();
        refused(x, "step() of nothing", STATE, x::step);
        for (String text : new String[] {"a=b", "a=b:", "a=b:c", "a=b:c=", "a=b:c=d+", "a=b:i=1", "a=b:c=d|a=b", "a=b:c=100", "(a=b:c=1)",
            "a=b:c<1", "a=b:1=c", "a:b=c"}) {
            x.blank();
            page(x, text);
            refused(x, "step() of " + text, STATE, x::step);
            due("count(3) behind " + text, x.count(3), text.length());
        }
        for (int n = 0; n < 8; n++) {
            due("step", step(x, "a=" + n + ":b=" + n + "+1"), n);
            due("count(3)", x.count(3), 0);
        }
        page(x, "a=0:b=0");
        refused(x, "step() when there are eight", FULL, x::step);
        page(x, "-");
        refused(x, "no step when there are eight", STATE, x::step);
    }

    private static void bare() {
        promise = 17;
        LeftStates x = new LeftStates();
        due("bare()", x.bare(), 0);
        step(x, "a=0:a=9");
        step(x, "a=9:b=9");
        due("heal(0)", x.heal(0L), 909);
        due("bare()", x.bare(), 2);
        due("heal(0)", x.heal(0L), 0);
        due("count(2)", x.count(2), 0);
        due("step", step(x, "a=0:c=1"), 0);
        due("heal(0)", x.heal(0L), 10000);
    }

    private static void always() {
        promise = 18;
        LeftStates x = new LeftStates();
        refused(x, "always(0, true)", UNKNOWN, () -> x.always(0, true));
        rule(x, "a=1");
        rule(x, "a=0");
        due("safe()", x.safe(), 1);
        due("always(0, true)", x.always(0, true), 0);
        due("always(1, true)", x.always(1, true), 0);
        due("safe()", x.safe(), 0);
        due("always(0, true)", x.always(0, true), 1);
        due("always(0, false)", x.always(0, false), 1);
        due("always(0, false)", x.always(0, false), 0);
        due("always(1, true)", x.always(1, true), 1);
        due("safe()", x.safe(), 1);
        refused(x, "always(2, true)", UNKNOWN, () -> x.always(2, true));
        refused(x, "always(-1, false)", UNKNOWN, () -> x.always(-1, false));
    }

    private static void holds() {
        promise = 19;
        String[] texts = {"a=1|b=1&c=1", "(a=1|b=1)&c=1", "!a=1&b=0", "!(a=1&b=0)", "!!a=1", "a-b=b-a", "a-1-1=b", "a-b-c<0-1", "h>g+98", "99-99=a"};
        long[][] plates = {{1, 100, 10100}, {10001, 1, 10100}, {0, 1, 100}, {1, 0, 101}, {1, 0, 101}, {0, 101, 100}, {2, 0, 103}, {100, 10100, 3},
            {9900000000000000L, 9901000000000000L, 9800000000000000L}, {0, 1, 9900}};
        int[][] is = {{1, 0, 1}, {1, 0, 1}, {1, 0, 0}, {0, 1, 1}, {1, 0, 1}, {1, 1, 0}, {1, 0, 1}, {0, 1, 0}, {1, 0, 0}, {1, 0, 1}};
        for (int i = 0; i < texts.length; i++) {
            LeftStates x = new LeftStates();
            rule(x, texts[i]);
            for (int j = 0; j < 3; j++) {
                due(texts[i] + " in " + plates[i][j], x.holds(0, plates[i][j]), is[i][j]);
            }
        }
        LeftStates x = new LeftStates();
        refused(x, "holds(0, 0)", UNKNOWN, () -> x.holds(0, 0L));
        rule(x, "h=99");
        due("holds(0, the last)", x.holds(0, LAST), 1);
        refused(x, "holds(1, -1)", UNKNOWN, () -> x.holds(1, -1L));
        refused(x, "holds(-1, 0)", UNKNOWN, () -> x.holds(-1, 0L));
        refused(x, "holds(0, -1)", OUTSIDE, () -> x.holds(0, -1L));
        refused(x, "holds(0, above)", OUTSIDE, () -> x.holds(0, LAST + 1));
        refused(x, "holds(0, least)", OUTSIDE, () -> x.holds(0, Long.MIN_VALUE));
    }

    private static void found() {
        promise = 20;
        LeftStates x = new LeftStates();
        due("found(0)", x.found(0), 1);
        refused(x, "found(1)", OUTSIDE, () -> x.found(1));
        refused(x, "found(-1)", OUTSIDE, () -> x.found(-1));
        x.write(0, 1);   // 0
        x.write(1, 1);   // 1
        x.barrier();     // 2
        x.write(0, 2);   // 3
        x.write(2, 1);   // 4
        x.flush();       // 5
        x.write(0, 3);   // 6
        x.barrier();     // 7
        x.barrier();     // 8
        x.write(0, 1);   // 9
        int[] many = {1, 2, 4, 4, 5, 7, 1, 2, 2, 2, 3};
        for (int k = 0; k < many.length; k++) {
            due("found(" + k + ")", x.found(k), many[k]);
        }
        x.sector(0, 1);
        due("found(1) when the write changes nothing", x.found(1), 1);
        x.swap(2, 5);
        due("found(5) behind swap", x.found(5), 4);
        due("found(3) behind swap", x.found(3), 1);
    }

    private static void plate() {
        promise = 21;
        LeftStates x = new LeftStates();
        x.write(1, 1);
        x.whole(0, 2, 7, 3);
        x.write(0, 4);
        long[] told = {0, 4, 100, 104, 300000000000002L, 300000000000004L, 300000000000102L, 300000000000104L};
        due("found(3)", x.found(3), told.length);
        for (int i = 0; i < told.length; i++) {
            due("plate(3, " + i + ")", x.plate(3, i), told[i]);
        }
        due("plate(3, 8)", x.plate(3, 8), NONE);
        due("plate(3, -1)", x.plate(3, -1), NONE);
        due("plate(3, greatest)", x.plate(3, Integer.MAX_VALUE), NONE);
        due("plate(0, 0)", x.plate(0, 0), 0);
        due("plate(1, 1)", x.plate(1, 1), 100);
        refused(x, "plate(4, 0)", -2, () -> x.plate(4, 0));
        refused(x, "plate(-1, -1)", -2, () -> x.plate(-1, -1));
    }

    private static void heal() {
        promise = 22;
        LeftStates x = new LeftStates();
        due("heal(5)", x.heal(5L), 5);
        step(x, "a>b:c=a-b");
        step(x, "c>0:b=a+c");
        step(x, "h=99:a=0-1");
        due("heal(5)", x.heal(5L), 51005);
        due("a sum above 99 stays", x.heal(99L), 990099L);
        due("a sum below 0 stays", x.heal(9900000000000001L), 9900000000010201L);
        due("heal(the last)", x.heal(LAST), LAST);
        refused(x, "heal(-1)", -2, () -> x.heal(-1L));
        refused(x, "heal(above)", -2, () -> x.heal(LAST + 1));
        LeftStates y = new LeftStates();
        step(y, "a=0:b=99");
        due("a sum of 99 is laid", y.heal(100L), 9900);
        step(y, "b=99:b=99-99");
        due("a sum of 0 is laid", y.heal(100L), 0);
        step(y, "b=0:b=99+1");
        due("a sum of 100 is not", y.heal(100L), 0);
    }

    private static void cut() {
        promise = 23;
        LeftStates x = new LeftStates();
        due("cut(7, 0)", x.cut(7L, 0), 7);
        step(x, "a=1:a=2");
        step(x, "a=0:a=1");
        step(x, "a<5&b=1:a=a+1");
        due("cut(0, 0)", x.cut(0L, 0), 1);
        due("cut(0, 1)", x.cut(0L, 1), 1);
        due("cut(0, 2)", x.cut(0L, 2), 2);
        due("cut(0, 3)", x.cut(0L, 3), 2);
        due("cut(103, 3)", x.cut(103L, 3), 105);
        due("cut(103, 2)", x.cut(103L, 2), 104);
        refused(x, "cut(0, 4)", -1, () -> x.cut(0L, 4));
        refused(x, "cut(0, -1)", -1, () -> x.cut(0L, -1));
        refused(x, "cut(-1, 4)", -2, () -> x.cut(-1L, 4));
        refused(x, "cut(above, 0)", -2, () -> x.cut(LAST + 1, 0));
    }

    private static void steady() {
        promise = 24;
        LeftStates x = new LeftStates();
        due("steady(0)", x.steady(0L), 1);
        step(x, "a=0:b=1");
        step(x, "b=1&a=0:a=1");
        step(x, "b=1:b=0");
        // behind the second step a is 1 and b is 1: begun anew the third lays b, as without a cut
        due("steady(0)", x.steady(0L), 1);
        step(x, "c=9:d=d+1");
        due("steady of c 9", x.steady(90000L), 0);
        due("steady of c 9, d 97", x.steady(97090001L), 0);
        due("steady of c 9, d 98: more than 99 is not laid", x.steady(98090001L), 1);
        due("steady of c 8", x.steady(80000L), 1);
        LeftStates y = new LeftStates();
        step(y, "a=1:a=2");
        step(y, "a=0:a=1");
        step(y, "a=1:a=0");
        // the end of all is as at first, but what lay between two steps heals elsewhere
        due("heal(0)", y.heal(0L), 0);
        due("cut(0, 3)", y.cut(0L, 3), 0);
        due("cut(0, 2)", y.cut(0L, 2), 2);
        due("steady(0)", y.steady(0L), 0);
        due("steady(2)", y.steady(2L), 1);
        refused(x, "steady(-1)", OUTSIDE, () -> x.steady(-1L));
        refused(x, "steady(above)", OUTSIDE, () -> x.steady(LAST + 1));
    }

    private static void kept() {
        promise = 25;
        LeftStates x = new LeftStates();
        refused(x, "kept(0, 0, 0)", UNKNOWN, () -> x.kept(0, 0, 0));
        rule(x, "a=b");
        x.write(0, 1);
        x.write(1, 1);
        x.write(1, 1);
        due("kept(0, 0, 0)", x.kept(0, 0, 0), 1);
        due("kept(0, 1, 0)", x.kept(0, 1, 0), 1);
        due("kept(0, 3, 0)", x.kept(0, 3, 0), 2);
        due("kept(0, 3, 1)", x.kept(0, 3, 1), 2);
        step(x, "a>b:a=b");
        due("kept(0, 3, 0)", x.kept(0, 3, 0), 2);
        due("kept(0, 3, 1)", x.kept(0, 3, 1), 3);
        x.sector(1, 1);
        due("kept(0, 3, 1)", x.kept(0, 3, 1), 1);
        refused(x, "kept(1, 9, 9)", UNKNOWN, () -> x.kept(1, 9, 9));
        refused(x, "kept(-1, 0, 0)", UNKNOWN, () -> x.kept(-1, 0, 0));
        refused(x, "kept(0, 4, 0)", OUTSIDE, () -> x.kept(0, 4, 0));
        refused(x, "kept(0, -1, 0)", OUTSIDE, () -> x.kept(0, -1, 0));
        refused(x, "kept(0, 0, 2)", OUTSIDE, () -> x.kept(0, 0, 2));
        refused(x, "kept(0, 0, -1)", OUTSIDE, () -> x.kept(0, 0, -1));
    }

    private static void broken() {
        promise = 26;
        LeftStates x = new LeftStates();
        rule(x, "a=1");
        rule(x, "b<2");
        x.write(0, 1);
        x.write(1, 2);
        x.tell(0);
        due("broken(2)", x.broken(2), 0);
        due("broken(3)", x.broken(3), 2);
        x.always(1, true);
        due("broken(2)", x.broken(2), 2);
        due("broken(3)", x.broken(3), 3);
        step(x, "b=2:b=0");
        due("broken(3) healed", x.broken(3), 2);
        step(x, "b=0:c=c+1");
        due("broken(0), not steady", x.broken(0), 1);
        due("broken(3), not steady", x.broken(3), 4);
        refused(x, "broken(4)", OUTSIDE, () -> x.broken(4));
        refused(x, "broken(-1)", OUTSIDE, () -> x.broken(-1));
    }

    private static void bounds() {
        promise = 27;
        LeftStates x = new LeftStates();
        x.sector(3, 50);
        x.write(3, 60);
        x.write(3, 40);
        x.flush();
        x.whole(3, 45, 7, 99);
        int[][] told = {{50, 50}, {50, 60}, {40, 60}, {40, 40}, {40, 45}};
        for (int k = 0; k < 5; k++) {
            due("bounds(3, " + k + ", 0)", x.bounds(3, k, 0), told[k][0]);
            due("bounds(3, " + k + ", 1)", x.bounds(3, k, 1), told[k][1]);
        }
        due("bounds(7, 4, 1)", x.bounds(7, 4, 1), 99);
        due("bounds(7, 4, 0)", x.bounds(7, 4, 0), 0);
        refused(x, "bounds(8, 9, 9)", UNKNOWN, () -> x.bounds(8, 9, 9));
        refused(x, "bounds(-1, 0, 0)", UNKNOWN, () -> x.bounds(-1, 0, 0));
        refused(x, "bounds(0, 5, 0)", OUTSIDE, () -> x.bounds(0, 5, 0));
        refused(x, "bounds(0, -1, 0)", OUTSIDE, () -> x.bounds(0, -1, 0));
        refused(x, "bounds(0, 0, 2)", OUTSIDE, () -> x.bounds(0, 0, 2));
        refused(x, "bounds(0, 0, -1)", OUTSIDE, () -> x.bounds(0, 0, -1));
    }

    private static void safe() {
        promise = 28;
        LeftStates x = kept("b=0|a=1");
        x.write(0, 1);
        x.write(1, 1);
        due("safe()", x.safe(), 0);
        x.barrier();
        x.swap(1, 2);
        due("safe() with a barrier", x.safe(), 1);
        x.swap(0, 2);
        due("safe() the wrong way round", x.safe(), 0);
        step(x, "b=1&a=0:b=0");
        due("safe() healed", x.safe(), 1);
        LeftStates y = new LeftStates();
        rule(y, "a=1");
        y.write(0, 1);
        y.tell(0);
        due("a promise that nothing made sure", y.safe(), 0);
        y.flush();
        y.swap(1, 2);
        due("a promise behind a flush", y.safe(), 1);
        y.write(0, 2);
        due("a promise is due for ever", y.safe(), 0);
        LeftStates z = new LeftStates();
        step(z, "a=0:b=b+1");
        due("not steady at first", z.safe(), 0);
    }

    private static void shortest() {
        promise = 29;
        LeftStates x = kept("!c=1|a=b");
        for (int what = 0; what < 4; what++) {
            due("shortest(" + what + ") when safe", x.shortest(what), NONE);
        }
        x.write(3, 9);   // 0: reached surely
        x.flush();       // 1
        x.write(1, 7);   // 2
        x.write(0, 7);   // 3
        x.write(1, 8);   // 4
        x.write(1, 7);   // 5
        due("shortest(0) when safe", x.shortest(0), NONE);
        x.write(2, 1);   // 6
        step(x, "d=9:d=8");
        due("shortest(0)", x.shortest(0), 7);
        due("shortest(1)", x.shortest(1), 9010007L);
        due("shortest(2)", x.shortest(2), 1 | 8 | 64);
        due("shortest(3)", x.shortest(3), 8010007L);
        LeftStates y = kept("!b=7");
        y.write(1, 7);
        y.write(0, 0);
        y.write(1, 7);
        due("the least set of several", y.shortest(2), 1);
        y.sector(1, 7);
        due("broken at first", y.shortest(0), 0);
        due("nothing reached", y.shortest(2), 0);
        due("the plate", y.shortest(1), 700);
        refused(y, "shortest(4)", -2, () -> y.shortest(4));
        refused(y, "shortest(-1)", -2, () -> y.shortest(-1));
    }

    private static void cost() {
        promise = 30;
        LeftStates x = new LeftStates();
        due("cost(0, 9)", x.cost(0, 9), 1);
        due("cost(0, 1)", x.cost(0, 1), 9);
        due("cost(1, 99)", x.cost(1, 99), 5);
        due("cost(1, 1)", x.cost(1, 1), 99);
        refused(x, "cost(2, 0)", UNKNOWN, () -> x.cost(2, 0));
        refused(x, "cost(-1, 1)", UNKNOWN, () -> x.cost(-1, 1));
        refused(x, "cost(0, 0)", OUTSIDE, () -> x.cost(0, 0));
        refused(x, "cost(0, 10)", OUTSIDE, () -> x.cost(0, 10));
        refused(x, "cost(1, 0)", OUTSIDE, () -> x.cost(1, 0));
        refused(x, "cost(1, 100)", OUTSIDE, () -> x.cost(1, 100));
    }

    /** What fewest() answers to 0, 1 and the places. */
    private static void fewestIs(LeftStates x, int costs, int many, int... places) {
        due("fewest(0)", x.fewest(0), costs);
        due("fewest(1)", x.fewest(1), many);
        for (int i = 0; i < places.length; i++) {
            due("fewest(" + (10 + i) + ")", x.fewest(10 + i), places[i]);
        }
    }

    private static void fewest() {
        promise = 31;
        fewestIs(new LeftStates(), 0, 0, NONE, NONE, NONE, NONE, NONE, NONE, NONE);
        LeftStates x = kept("b=0|a=1");
        x.write(0, 1);
        x.write(2, 3);
        x.write(1, 1);
        fewestIs(x, 1, 1, 0, 1, NONE);   // behind act 1 is less than behind act 0
        x.cost(0, 9);
        x.cost(1, 2);
        fewestIs(x, 2, 1, 0, 2, NONE);
        LeftStates y = new LeftStates();
        rule(y, "a=1");
        y.write(0, 1);
        y.tell(0);
        fewestIs(y, 5, 1, 2, NONE);
        y.sector(0, 2);
        y.always(0, true);
        fewestIs(y, NONE, NONE, NONE, NONE, NONE);
        // a barrier and a flush of like cost: the barrier is less; one that costs 2 goes behind two that cost 1
        LeftStates z = kept("b=0|a=1");
        rule(z, "b=1");
        z.write(0, 1);
        z.write(1, 1);
        z.tell(1);
        z.cost(1, 1);
        fewestIs(z, 2, 2, 1, 2, NONE);
        // two barriers keep the order, or one flush makes the promise true: of like cost the fewer, else the cheaper
        LeftStates chain = new LeftStates();
        rule(chain, "!a<b&!b<c");
        chain.write(0, 1);
        chain.write(1, 1);
        chain.write(2, 1);
        chain.tell(0);
        chain.cost(1, 2);
        fewestIs(chain, 2, 1, 0, 0, 2, NONE);
        chain.cost(1, 3);
        fewestIs(chain, 2, 2, 1, 1, 0, NONE);
        LeftStates eight = kept("b=0|a=1");
        rule(eight, "h=1");
        eight.write(0, 1);
        for (int n = 0; n < 5; n++) {
            eight.tell(0);
        }
        eight.write(1, 1);
        eight.write(7, 1);
        fewestIs(eight, 1, 1, 0, 0, 0, 0, 0, 1, 0);
        due("count(6)", eight.count(6), 9);
    }

    private static void fewestRefusals() {
        LeftStates x = new LeftStates();
        int[] outside = {-1, 2, 9, 17, Integer.MIN_VALUE, Integer.MAX_VALUE};
        for (int what : outside) {
            refused(x, "fewest(" + what + ")", OUTSIDE, () -> x.fewest(what));
        }
        for (int n = 0; n < 8; n++) {
            x.barrier();
        }
        due("fewest(16) of 8 acts", x.fewest(16), 0);
        x.barrier();
        refused(x, "fewest(0) of 9 acts", STATE, () -> x.fewest(0));
        refused(x, "fewest(2) of 9 acts", OUTSIDE, () -> x.fewest(2));
        x.undo();
        for (int n = 1; n < 12; n++) {
            due("count(6)", x.count(6), n);
            due("fewest(0)", x.fewest(0), 0);
        }
        refused(x, "fewest(0) the 13th time", STATE, () -> x.fewest(0));
        refused(x, "fewest(17) the 13th time", OUTSIDE, () -> x.fewest(17));
        due("count(6)", x.count(6), 12);
    }

    private static void needless() {
        promise = 32;
        LeftStates x = new LeftStates();
        due("needless()", x.needless(), 0);
        x.write(0, 1);            // 0
        x.barrier();              // 1
        x.whole(0, 2, 1, 0);      // 2
        x.write(0, 2);            // 3
        x.write(2, 0);            // 4
        due("needless()", x.needless(), 1 | 4 | 8 | 16);
        rule(x, "a<2");
        x.always(0, true);
        due("needless() that stays unsafe", x.needless(), 0);
        LeftStates y = kept("!a=1");
        y.write(0, 1);
        y.write(0, 2);
        y.write(0, 2);
        due("without it all is safe", y.safe(), 0);
        due("needless()", y.needless(), 1);
        LeftStates z = kept("a=0|b=1");
        z.write(1, 1);
        z.barrier();
        z.write(0, 1);
        z.write(1, 1);
        due("without the first one it is not safe", z.needless(), 8);
    }

    private static void order() {
        promise = 33;
        LeftStates x = new LeftStates();
        rule(x, "b=0|a=1");
        rule(x, "c<3");
        x.write(0, 1);   // 0
        x.tell(0);       // 1
        x.write(1, 1);   // 2
        x.write(1, 0);   // 3
        due("order(0, 0, 2)", x.order(0, 0, 2), 1);
        due("order(0, 0, 3)", x.order(0, 0, 3), 0);
        due("order(0, 2, 0)", x.order(0, 2, 0), 0);
        step(x, "b=1:b=0");
        due("order(0, 0, 2) healed", x.order(0, 0, 2), 0);
        x.bare();
        refused(x, "order(2, 0, 2)", UNKNOWN, () -> x.order(2, 0, 2));
        refused(x, "order(-1, 0, 2)", UNKNOWN, () -> x.order(-1, 0, 2));
        refused(x, "order(0, 0, 0)", UNKNOWN, () -> x.order(0, 0, 0));
        refused(x, "order(0, 0, 1)", UNKNOWN, () -> x.order(0, 0, 1));
        refused(x, "order(0, 1, 0)", UNKNOWN, () -> x.order(0, 1, 0));
        refused(x, "order(0, 4, 0)", UNKNOWN, () -> x.order(0, 4, 0));
        refused(x, "order(0, 0, -1)", UNKNOWN, () -> x.order(0, 0, -1));
        x.barrier();     // 4
        x.write(0, 0);   // 5
        x.write(2, 3);   // 6
        x.write(2, 3);   // 7
        refused(x, "order(0, 0, 5)", STATE, () -> x.order(0, 0, 5));
        due("those behind have not reached", x.order(0, 0, 2), 1);
        due("those ahead have reached", x.order(0, 6, 5), 0);
        due("sets, not plates", x.order(1, 5, 6), 2);
        x.flush();       // 8
        refused(x, "order(0, 0, 2) ahead of a flush", STATE, () -> x.order(0, 0, 2));
        refused(x, "order(1, 5, 6) ahead of a flush", STATE, () -> x.order(1, 5, 6));
        x.write(0, 1);   // 9
        x.write(2, 4);   // 10
        due("order(1, 9, 10)", x.order(1, 9, 10), 1);
    }

    private static void count() {
        promise = 34;
        LeftStates x = new LeftStates();
        rule(x, "a=0");
        rule(x, "a=0");
        step(x, "a=0:a=0");
        page(x, "xyz");
        x.barrier();
        x.tell(0);
        x.write(0, 0);
        x.tell(1);
        x.whole(0, 0, 1, 0);
        x.flush();
        x.barrier();
        x.write(0, 0);
        x.fewest(0);
        int[] told = {8, 2, 1, 3, 2, 3, 1};
        for (int what = 0; what <= 6; what++) {
            due("count(" + what + ")", x.count(what), told[what]);
        }
        refused(x, "count(7)", OUTSIDE, () -> x.count(7));
        refused(x, "count(-1)", OUTSIDE, () -> x.count(-1));
    }

    private static long mixed(long... numbers) {
        long h = 269L;
        for (long number : numbers) {
            h = 31L * h + number;
        }
        return h;
    }

    private static void digest() {
        promise = 35;
        due("digest() of a new one", new LeftStates().digest(), mixed(0, 0, 1, 0, 1, 5, 0, 0, 0, 0, 0, 0, 0));
        LeftStates x = new LeftStates();
        x.sector(1, 2);
        x.write(0, 3);
        x.whole(1, 4, 7, 5);
        rule(x, "b=2");
        rule(x, "b=3");
        x.always(1, true);
        x.tell(1);
        step(x, "b=2:c=9");
        x.cost(0, 7);
        x.cost(1, 70);
        page(x, "z!");
        x.fewest(0);
        due("digest()", x.digest(), mixed(200, 0, 0, 3, -1, -1, 1, 1, 4, 7, 5, 4, 1, -1, -1, -1, 500000000000403L,
            0, 1, 1, 0, 1, 2, 4, 4, 90200, 7, 70, 'z', '!', 3, 2, 1, 2, 1, 2, 1));
        due("digest() again", x.digest(), x.digest());
    }
}
