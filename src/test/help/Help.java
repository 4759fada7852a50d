/** Texts on the page of an object. */
final class Help {
    static final int NONE = -1, UNKNOWN = -101, OUTSIDE = -102, STATE = -103, FULL = -104;
    /** The greatest plate, and what a call that answers plates says for OUTSIDE. */
    static final long LAST = 9999999999999999L;
    static final long PLATE_OUTSIDE = -2L;

    private Help() {
    }

    /** Up to eight letters of a text from one on, as letters() takes them. */
    static long word(String text, int from) {
        long w = 0L;
        for (int i = Math.min(text.length(), from + 8) - 1; i >= from; i--) {
            w = w << 8 | text.charAt(i);
        }
        return w;
    }

    /** The text's letters come behind the page: what the last letters() answered. */
    static int page(LeftStates x, String text) {
        int size = x.count(3);
        for (int i = 0; i < text.length(); i += 8) {
            size = x.letters(word(text, i));
        }
        return size;
    }

    static int rule(LeftStates x, String text) {
        x.blank();
        page(x, text);
        return x.rule();
    }

    static int step(LeftStates x, String text) {
        x.blank();
        page(x, text);
        return x.step();
    }

    /** A new object with these rules. */
    static LeftStates withRules(String... texts) {
        LeftStates x = new LeftStates();
        for (String text : texts) {
            rule(x, text);
        }
        return x;
    }

    /** A new object with these steps. */
    static LeftStates withSteps(String... texts) {
        LeftStates x = new LeftStates();
        for (String text : texts) {
            step(x, text);
        }
        return x;
    }

    /** A new object with one rule that is kept ALWAYS. */
    static LeftStates keeping(String text) {
        LeftStates x = withRules(text);
        x.always(0, true);
        return x;
    }

    /** What digest() does to these numbers. */
    static long mixed(long... numbers) {
        long h = 269L;
        for (long number : numbers) {
            h = 31L * h + number;
        }
        return h;
    }
}
