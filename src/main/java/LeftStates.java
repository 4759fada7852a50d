import java.util.Arrays;

/** What a store may be left as when its power goes; ../shared/DOC.md says what each call answers. */
public final class LeftStates {
    public static final int NONE = -1, UNKNOWN = -101, OUTSIDE = -102, STATE = -103, FULL = -104;

    private static final int SECTORS = 8;
    private static final int MOST_ACTS = 12;
    private static final int MOST_RULES = 6;
    private static final int MOST_STEPS = 8;
    private static final int MOST_LETTERS = 60;
    private static final int MOST_SETS = 1 << MOST_ACTS;
    private static final int MOST_PLACED_ACTS = 8;
    private static final int MOST_FEWEST = 12;
    private static final int DEAREST_BARRIER = 9;
    private static final int DEAREST_FLUSH = 99;
    private static final int FIRST_PLACE = 10;
    private static final long LAST_PLATE = 9999999999999999L;
    /** What calls that answer plates say for OUTSIDE. */
    private static final long PLATE_OUTSIDE = -2L;
    /** What cut() says for UNKNOWN. */
    private static final long CUT_UNKNOWN = -1L;
    /** The bit of a verdict for a plate that is not STEADY, above the bits of the rules. */
    private static final int UNSTEADY = 1 << MOST_RULES;

    private static final int WRITE = 0, WHOLE = 1, BARRIER = 2, FLUSH = 3, TELL = 4;

    private final Verdicts verdicts = new Verdicts();
    private final Program program = verdicts.program;
    private final Rules rules = verdicts.rules;
    private final Healing healing = verdicts.healing;
    private final Page page = new Page();
    private final Reader reader = new Reader();
    private final Found list = new Found();
    private final Placing placing = new Placing();
    private int barrierCost = 1;
    private int flushCost = 5;
    private int fewestDone = 0;

    public LeftStates() {
    }

    // ---- the plate, the program

    public int sector(int s, int v) {
        if (!isSector(s)) {
            return UNKNOWN;
        }
        if (!isFigure(v)) {
            return OUTSIDE;
        }
        int was = figureOf(program.first, s);
        program.first = withFigure(program.first, s, v);
        forgetFound();
        return was;
    }

    public int write(int s, int v) {
        if (!isSector(s)) {
            return UNKNOWN;
        }
        if (!isFigure(v)) {
            return OUTSIDE;
        }
        return addAct(WRITE, s, v, NONE, NONE);
    }

    public int whole(int s, int v, int t, int w) {
        if (!isSector(s) || !isSector(t) || s == t) {
            return UNKNOWN;
        }
        if (!isFigure(v) || !isFigure(w)) {
            return OUTSIDE;
        }
        return addAct(WHOLE, s, v, t, w);
    }

    public int barrier() {
        return addAct(BARRIER, NONE, NONE, NONE, NONE);
    }

    public int flush() {
        return addAct(FLUSH, NONE, NONE, NONE, NONE);
    }

    public int tell(int rule) {
        if (!rules.has(rule)) {
            return UNKNOWN;
        }
        return addAct(TELL, rule, NONE, NONE, NONE);
    }

    public int undo() {
        if (program.size <= 0) {
            return STATE;
        }
        program.size--;
        forgetFound();
        return program.size;
    }

    public int swap(int i, int j) {
        if (!program.has(i) || !program.has(j)) {
            return UNKNOWN;
        }
        program.exchange(i, j);
        forgetFound();
        return 1;
    }

    public int act(int i, int what) {
        if (!program.has(i)) {
            return UNKNOWN;
        }
        if (what < 0 || what > 4) {
            return OUTSIDE;
        }
        return program.acts[i].part(what);
    }

    public long end() {
        return numberOf(program.plateOf(program.writes()));
    }

    private int addAct(int sort, int sector, int number, int otherSector, int otherNumber) {
        if (program.size >= MOST_ACTS) {
            return FULL;
        }
        program.acts[program.size].become(sort, sector, number, otherSector, otherNumber);
        program.size++;
        forgetFound();
        return program.size - 1;
    }

    // ---- texts

    public int letters(long w) {
        int more = Page.lettersIn(w);
        if (more < 0) {
            return OUTSIDE;
        }
        if (page.size + more > MOST_LETTERS) {
            return FULL;
        }
        page.append(w, more);
        return page.size;
    }

    public int blank() {
        int had = page.size;
        page.size = 0;
        return had;
    }

    public int good(int sort) {
        if (sort != 0 && sort != 1) {
            return OUTSIDE;
        }
        return reader.goodOf(page, sort == 1);
    }

    public int rule() {
        if (reader.goodOf(page, false) < page.size || !reader.isWhole()) {
            return STATE;
        }
        if (rules.size >= MOST_RULES) {
            return FULL;
        }
        rules.texts[rules.size].copy(reader.text);
        rules.size++;
        page.size = 0;
        verdicts.forget();
        return rules.size - 1;
    }

    public int step() {
        if (reader.goodOf(page, true) < page.size || !reader.isWhole()) {
            return STATE;
        }
        if (healing.size >= MOST_STEPS) {
            return FULL;
        }
        healing.steps[healing.size].copy(reader.text);
        healing.size++;
        page.size = 0;
        verdicts.forget();
        return healing.size - 1;
    }

    public int bare() {
        int had = healing.size;
        healing.size = 0;
        verdicts.forget();
        return had;
    }

    public int always(int rule, boolean is) {
        if (!rules.has(rule)) {
            return UNKNOWN;
        }
        int was = rules.always >> rule & 1;
        rules.always = is ? rules.always | 1 << rule : rules.always & ~(1 << rule);
        return was;
    }

    public int holds(int rule, long plate) {
        if (!rules.has(rule)) {
            return UNKNOWN;
        }
        if (!isNumberOfPlate(plate)) {
            return OUTSIDE;
        }
        return (rules.failingIn(plateOfNumber(plate)) >> rule & 1) ^ 1;
    }

    // ---- what is found

    public int found(int k) {
        if (!program.hasBehind(k)) {
            return OUTSIDE;
        }
        list.fill(program, k);
        return list.size;
    }

    public long plate(int k, int i) {
        if (!program.hasBehind(k)) {
            return PLATE_OUTSIDE;
        }
        list.fill(program, k);
        return i >= 0 && i < list.size ? numberOf(list.plates[i]) : NONE;
    }

    public long heal(long plate) {
        if (!isNumberOfPlate(plate)) {
            return PLATE_OUTSIDE;
        }
        return numberOf(healing.healed(plateOfNumber(plate)));
    }

    public long cut(long plate, int j) {
        if (!isNumberOfPlate(plate)) {
            return PLATE_OUTSIDE;
        }
        if (j < 0 || j > healing.size) {
            return CUT_UNKNOWN;
        }
        return numberOf(healing.healed(healing.after(plateOfNumber(plate), 0, j)));
    }

    public int steady(long plate) {
        if (!isNumberOfPlate(plate)) {
            return OUTSIDE;
        }
        long asked = plateOfNumber(plate);
        return healing.isSteady(asked, healing.healed(asked)) ? 1 : 0;
    }

    public int kept(int rule, int k, int how) {
        if (!rules.has(rule)) {
            return UNKNOWN;
        }
        if (!program.hasBehind(k) || how != 0 && how != 1) {
            return OUTSIDE;
        }
        list.fill(program, k);
        int holding = 0;
        for (int i = 0; i < list.size; i++) {
            int failing = how == 1 ? verdicts.of(list.reached[i]) : rules.failingIn(list.plates[i]);
            holding += (failing >> rule & 1) ^ 1;
        }
        return holding;
    }

    public int broken(int k) {
        if (!program.hasBehind(k)) {
            return OUTSIDE;
        }
        list.fill(program, k);
        int due = program.dueAt(k, rules.always);
        int many = 0;
        for (int i = 0; i < list.size; i++) {
            many += (verdicts.of(list.reached[i]) & due) != 0 ? 1 : 0;
        }
        return many;
    }

    public int bounds(int s, int k, int side) {
        if (!isSector(s)) {
            return UNKNOWN;
        }
        if (!program.hasBehind(k) || side != 0 && side != 1) {
            return OUTSIDE;
        }
        list.fill(program, k);
        int bound = figureOf(list.plates[0], s);
        for (int i = 1; i < list.size; i++) {
            int figure = figureOf(list.plates[i], s);
            bound = side == 0 ? Math.min(bound, figure) : Math.max(bound, figure);
        }
        return bound;
    }

    // ---- what it comes to

    public int safe() {
        return verdicts.firstBroken(program.writes()) == NONE ? 1 : 0;
    }

    public long shortest(int what) {
        if (what < 0 || what > 3) {
            return PLATE_OUTSIDE;
        }
        int k = verdicts.firstBroken(program.writes());
        if (k == NONE || what == 0) {
            return k;
        }
        list.fill(program, k);
        int i = leastBroken(k);
        if (what == 2) {
            return list.reached[i];
        }
        return numberOf(what == 1 ? list.plates[i] : healing.healed(list.plates[i]));
    }

    /** Where the least broken plate lies in the list, which has been filled for k. */
    private int leastBroken(int k) {
        int due = program.dueAt(k, rules.always);
        int i = 0;
        while (i < list.size - 1 && (verdicts.of(list.reached[i]) & due) == 0) {
            i++;
        }
        return i;
    }

    public int cost(int which, int v) {
        if (which != 0 && which != 1) {
            return UNKNOWN;
        }
        if (v < 1 || v > (which == 0 ? DEAREST_BARRIER : DEAREST_FLUSH)) {
            return OUTSIDE;
        }
        int was = which == 0 ? barrierCost : flushCost;
        if (which == 0) {
            barrierCost = v;
        } else {
            flushCost = v;
        }
        return was;
    }

    public int fewest(int what) {
        int place = what - FIRST_PLACE;
        boolean asksPlace = what >= FIRST_PLACE && place < MOST_PLACED_ACTS - 1;
        if (what != 0 && what != 1 && !asksPlace) {
            return OUTSIDE;
        }
        if (program.size > MOST_PLACED_ACTS || fewestDone >= MOST_FEWEST) {
            return STATE;
        }
        fewestDone++;
        placing.weigh(program, verdicts);
        placing.search(program, rules.always, barrierCost, flushCost);
        if (asksPlace) {
            return placing.behind(place);
        }
        return what == 0 ? placing.bestCost : placing.bestPut;
    }

    public int needless() {
        int all = program.writes();
        long whenAll = program.plateOf(all);
        int bits = 0;
        for (int i = 0; i < program.size; i++) {
            int bit = all & 1 << i;
            int others = all & ~bit;
            if (bit != 0 && program.plateOf(others) == whenAll && verdicts.firstBroken(others) == NONE) {
                bits |= bit;
            }
        }
        return bits;
    }

    public int order(int rule, int i, int j) {
        if (!rules.has(rule) || !program.isWrite(i) || !program.isWrite(j) || i == j) {
            return UNKNOWN;
        }
        int from = program.epochStart(i);
        if (from != program.epochStart(j) || from < program.behindLastFlush(program.size)) {
            return STATE;
        }
        int sure = program.writesWithin(0, from) | 1 << j;
        int free = program.writesWithin(from, program.epochEnd(i)) & ~(1 << i | 1 << j);
        int sets = 1 << Integer.bitCount(free);
        int failing = 0;
        int some = 0;
        for (int n = 0; n < sets; n++) {
            failing += verdicts.of(sure | some) >> rule & 1;
            some = nextSet(some, free);
        }
        return failing;
    }

    // ---- what is told

    public int count(int what) {
        switch (what) {
            case 0:
                return program.size;
            case 1:
                return rules.size;
            case 2:
                return healing.size;
            case 3:
                return page.size;
            case 4:
                return program.epochsWithWrites();
            case 5:
                return Integer.bitCount(program.writes());
            case 6:
                return fewestDone;
            default:
                return OUTSIDE;
        }
    }

    public long digest() {
        long h = digestProgram(mix(269L, numberOf(program.first)));
        int failing = rules.failingIn(program.first);
        for (int r = 0; r < rules.size; r++) {
            h = mix(h, rules.always >> r & 1);
            h = mix(h, (failing >> r & 1) ^ 1);
        }
        for (int k = 0; k <= program.size; k++) {
            list.fill(program, k);
            h = mix(h, list.size);
        }
        h = mix(h, numberOf(healing.healed(program.first)));
        h = mix(mix(h, barrierCost), flushCost);
        for (int i = 0; i < page.size; i++) {
            h = mix(h, page.signs[i]);
        }
        for (int what = 0; what <= 6; what++) {
            h = mix(h, count(what));
        }
        return h;
    }

    private long digestProgram(long before) {
        long h = before;
        for (int i = 0; i < program.size; i++) {
            for (int what = 0; what <= 4; what++) {
                h = mix(h, program.acts[i].part(what));
            }
        }
        return mix(h, numberOf(program.plateOf(program.writes())));
    }

    private static long mix(long h, long number) {
        return 31L * h + number;
    }

    /** Behind each change of the plate at first or of the acts. */
    private void forgetFound() {
        list.forget();
        verdicts.forget();
    }

    private static boolean isSector(int s) {
        return s >= 0 && s < SECTORS;
    }

    private static boolean isFigure(int v) {
        return v >= 0 && v <= 99;
    }

    private static boolean isNumberOfPlate(long number) {
        return number >= 0L && number <= LAST_PLATE;
    }

    /**
     * Within the class a plate is held with a byte for each sector, h's highest: so plates lie in the
     * order of their numbers of base 100, and nothing need be divided to look at a sector.
     */
    private static long plateOfNumber(long number) {
        long left = number;
        long plate = 0L;
        for (int s = 0; s < SECTORS; s++) {
            plate |= left % 100L << 8 * s;
            left /= 100L;
        }
        return plate;
    }

    private static long numberOf(long plate) {
        long number = 0L;
        for (int s = SECTORS - 1; s >= 0; s--) {
            number = number * 100L + figureOf(plate, s);
        }
        return number;
    }

    private static int figureOf(long plate, int s) {
        return (int) (plate >>> 8 * s & 255L);
    }

    private static long withFigure(long plate, int s, int v) {
        return plate & ~(255L << 8 * s) | (long) v << 8 * s;
    }

    private static void unpack(long plate, int[] figures) {
        for (int s = 0; s < figures.length; s++) {
            figures[s] = (int) (plate >>> 8 * s & 255L);
        }
    }

    private static long pack(int[] figures) {
        long plate = 0L;
        for (int s = 0; s < figures.length; s++) {
            plate |= (long) figures[s] << 8 * s;
        }
        return plate;
    }

    /** The set of some of these bits that comes next as a number; behind the whole set the empty one. */
    private static int nextSet(int some, int bits) {
        return some - bits & bits;
    }

    /** One act of the program. */
    private static final class Act {
        int sort;
        /** The sector, or the rule that it tells. */
        int sector;
        int number;
        int otherSector;
        int otherNumber;

        void become(int newSort, int newSector, int newNumber, int newOtherSector, int newOtherNumber) {
            sort = newSort;
            sector = newSector;
            number = newNumber;
            otherSector = newOtherSector;
            otherNumber = newOtherNumber;
        }

        boolean writes() {
            return sort == WRITE || sort == WHOLE;
        }

        boolean endsEpoch() {
            return sort == BARRIER || sort == FLUSH;
        }

        int part(int what) {
            switch (what) {
                case 0:
                    return sort;
                case 1:
                    return sector;
                case 2:
                    return number;
                case 3:
                    return otherSector;
                default:
                    return otherNumber;
            }
        }

        int sectorBits() {
            return sort == WHOLE ? 1 << sector | 1 << otherSector : 1 << sector;
        }

        long laidOn(long plate) {
            long laid = withFigure(plate, sector, number);
            return sort == WHOLE ? withFigure(laid, otherSector, otherNumber) : laid;
        }
    }

    /** The acts, and the plate that they begin with. Sets of acts are bits, act 0 the lowest. */
    private static final class Program {
        final Act[] acts = new Act[MOST_ACTS];
        int size = 0;
        long first = 0L;

        Program() {
            for (int i = 0; i < MOST_ACTS; i++) {
                acts[i] = new Act();
            }
        }

        boolean has(int i) {
            return i >= 0 && i < size;
        }

        /** Whether power may go behind k acts. */
        boolean hasBehind(int k) {
            return k >= 0 && k <= size;
        }

        boolean isWrite(int i) {
            return has(i) && acts[i].writes();
        }

        void exchange(int i, int j) {
            Act one = acts[i];
            acts[i] = acts[j];
            acts[j] = one;
        }

        int writes() {
            return writesWithin(0, size);
        }

        int writesWithin(int from, int to) {
            int bits = 0;
            for (int i = from; i < to; i++) {
                bits |= acts[i].writes() ? 1 << i : 0;
            }
            return bits;
        }

        /** The act that stands first in the epoch in which act i stands. */
        int epochStart(int i) {
            int start = i;
            while (start > 0 && !acts[start - 1].endsEpoch()) {
                start--;
            }
            return start;
        }

        /** The act behind the last one of the epoch in which act i stands. */
        int epochEnd(int i) {
            int end = i;
            while (end < size && !acts[end].endsEpoch()) {
                end++;
            }
            return end;
        }

        /** How many of the first k acts come up to the last flush among them, with it. */
        int behindLastFlush(int k) {
            int behind = k;
            while (behind > 0 && acts[behind - 1].sort != FLUSH) {
                behind--;
            }
            return behind;
        }

        int epochsWithWrites() {
            int many = 0;
            boolean inOne = false;
            for (int i = 0; i < size; i++) {
                if (acts[i].writes() && !inOne) {
                    many++;
                    inOne = true;
                } else if (acts[i].endsEpoch()) {
                    inOne = false;
                }
            }
            return many;
        }

        /** The plate on which just these writes lie. */
        long plateOf(int reached) {
            long laid = first;
            for (int i = 0; i < size; i++) {
                if ((reached >> i & 1) != 0) {
                    laid = acts[i].laidOn(laid);
                }
            }
            return laid;
        }

        /** These writes without those that later ones hide: they leave the same plate. */
        int shownOf(int reached) {
            int hidden = 0;
            int shown = 0;
            for (int i = size - 1; i >= 0; i--) {
                if ((reached >> i & 1) != 0) {
                    int laid = acts[i].sectorBits();
                    shown |= (laid & ~hidden) != 0 ? 1 << i : 0;
                    hidden |= laid;
                }
            }
            return shown;
        }

        /** What no plate behind k acts may have in its verdict. */
        int dueAt(int k, int always) {
            int due = always | UNSTEADY;
            for (int i = 0; i < k; i++) {
                due |= acts[i].sort == TELL ? 1 << acts[i].sector : 0;
            }
            return due;
        }
    }

    /** The letters that have come and have not been read yet. */
    private static final class Page {
        final char[] signs = new char[MOST_LETTERS];
        int size = 0;

        /** How many letters w tells; NONE, if it tells some wrongly. */
        static int lettersIn(long w) {
            int many = 0;
            for (int i = 0; i < 8; i++) {
                int code = codeIn(w, i);
                if (code > 126 || code != 0 && many < i) {
                    return NONE;
                }
                many += code != 0 ? 1 : 0;
            }
            return many;
        }

        void append(long w, int more) {
            for (int i = 0; i < more && size < MOST_LETTERS; i++) {
                signs[size] = (char) codeIn(w, i);
                size++;
            }
        }

        private static int codeIn(long w, int i) {
            return (int) (w >>> 8 * i & 255L);
        }
    }

    /**
     * A rule's or a step's text as it was read: what is to be done, in order. Units are added up (those
     * behind a relation with the other sign), so a relation compares with 0; what holds lies as bits on
     * a stack.
     */
    private static final class Text {
        static final int ADD_NUMBER = 0, TAKE_NUMBER = 1, ADD_SECTOR = 2, TAKE_SECTOR = 3;
        static final int LESS = 4, SAME = 5, MORE = 6, NOT = 7, BOTH = 8, EITHER = 9;

        private final int[] code = new int[MOST_LETTERS];
        private int size = 0;
        /** Where the code of the rule ends, and that of a step's sum begins. */
        private int ruleSize = 0;
        int target = 0;

        void clear() {
            size = 0;
            ruleSize = 0;
            target = 0;
        }

        void emit(int kind, int operand) {
            if (size < MOST_LETTERS) {
                code[size] = kind << 8 | operand;
                size++;
            }
        }

        /** A number's second digit came. */
        void widen(int digit) {
            if (size > 0) {
                code[size - 1] += 9 * (code[size - 1] & 255) + digit;
            }
        }

        void endRule() {
            ruleSize = size;
        }

        void copy(Text other) {
            System.arraycopy(other.code, 0, code, 0, MOST_LETTERS);
            size = other.size;
            ruleSize = other.ruleSize;
            target = other.target;
        }

        boolean isTrue(int[] figures) {
            long stack = 0L;
            int total = 0;
            for (int i = 0; i < ruleSize; i++) {
                int kind = code[i] >> 8;
                if (kind < LESS) {
                    int unit = kind < ADD_SECTOR ? code[i] & 255 : figures[code[i] & 7];
                    total += (kind & 1) == 0 ? unit : -unit;
                } else if (kind <= MORE) {
                    boolean is = kind == LESS ? total < 0 : kind == SAME ? total == 0 : total > 0;
                    stack = stack << 1 | (is ? 1L : 0L);
                    total = 0;
                } else if (kind == NOT) {
                    stack ^= 1L;
                } else if (kind == BOTH) {
                    stack = stack >>> 1 & (stack | ~1L);
                } else {
                    stack = stack >>> 1 | stack & 1L;
                }
            }
            return (stack & 1L) != 0L;
        }

        int sum(int[] figures) {
            int total = 0;
            for (int i = ruleSize; i < size; i++) {
                int kind = code[i] >> 8;
                int unit = kind < ADD_SECTOR ? code[i] & 255 : figures[code[i] & 7];
                total += (kind & 1) == 0 ? unit : -unit;
            }
            return total;
        }
    }

    /** Reads texts letter by letter; each letter is taken as long as some text may go on so. */
    private static final class Reader {
        /** What the letter that comes next may be. */
        private static final int FACTOR = 0, UNIT = 1, DIGIT = 2, AFTER = 3, CLOSED = 4, TARGET = 5, EQUALS = 6;
        /** Where the sum stands: ahead of a relation, behind it, or as what a step lays. */
        private static final int LEFT = 0, RIGHT = 1, LAID = 2;

        final Text text = new Text();
        /** Signs whose code comes later: "!", "(", "&" and "|". */
        private final char[] waiting = new char[MOST_LETTERS];
        private int waits = 0;
        private int open = 0;
        private int next = FACTOR;
        private int side = LEFT;
        private char relation = '=';
        private boolean minus = false;
        private boolean asStep = false;

        int goodOf(Page page, boolean step) {
            begin(step);
            int many = 0;
            while (many < page.size && takes(page.signs[many])) {
                many++;
            }
            return many;
        }

        private void begin(boolean step) {
            text.clear();
            waits = 0;
            open = 0;
            next = FACTOR;
            side = LEFT;
            minus = false;
            asStep = step;
        }

        /** Whether the letters that were taken are a whole text; its code stands then. */
        boolean isWhole() {
            boolean behindUnit = next == DIGIT || next == AFTER;
            if (asStep) {
                return behindUnit && side == LAID;
            }
            if (behindUnit && side == RIGHT) {
                closeComparison();
            }
            if (next != CLOSED || open != 0) {
                return false;
            }
            closeTerms();
            text.endRule();
            return true;
        }

        private boolean takes(char c) {
            if (endsComparison(c)) {
                closeComparison();
            }
            switch (next) {
                case FACTOR:
                    return takesFactor(c);
                case UNIT:
                    return takesUnit(c);
                case DIGIT:
                    return isDigit(c) ? takesSecondDigit(c) : takesBehindUnit(c);
                case AFTER:
                    return takesBehindUnit(c);
                case CLOSED:
                    return takesBehindFactor(c);
                case TARGET:
                    return takesTarget(c);
                default:
                    return takesEquals(c);
            }
        }

        private boolean endsComparison(char c) {
            boolean behindUnit = next == AFTER || next == DIGIT && !isDigit(c);
            return behindUnit && side == RIGHT && c != '+' && c != '-';
        }

        private boolean takesFactor(char c) {
            if (c == '!' || c == '(') {
                open += c == '(' ? 1 : 0;
                keep(c);
                return true;
            }
            side = LEFT;
            minus = false;
            return takesUnit(c);
        }

        private boolean takesUnit(char c) {
            boolean away = minus != (side == RIGHT);
            if (isLetter(c)) {
                text.emit(away ? Text.TAKE_SECTOR : Text.ADD_SECTOR, c - 'a');
                next = AFTER;
                return true;
            }
            if (isDigit(c)) {
                text.emit(away ? Text.TAKE_NUMBER : Text.ADD_NUMBER, c - '0');
                next = DIGIT;
                return true;
            }
            return false;
        }

        private boolean takesSecondDigit(char c) {
            text.widen(c - '0');
            next = AFTER;
            return true;
        }

        private boolean takesBehindUnit(char c) {
            if (c == '+' || c == '-') {
                minus = c == '-';
                next = UNIT;
                return true;
            }
            if (side == LEFT && (c == '<' || c == '=' || c == '>')) {
                relation = c;
                side = RIGHT;
                minus = false;
                next = UNIT;
                return true;
            }
            return false;
        }

        private boolean takesBehindFactor(char c) {
            if (c == '&') {
                release('&', Text.BOTH);
            } else if (c == '|') {
                closeTerms();
            } else if (c == ')' && open > 0) {
                closeTerms();
                open--;
                waits = Math.max(0, waits - 1);
                closeFactor();
                return true;
            } else if (c == ':' && asStep && open == 0) {
                closeTerms();
                text.endRule();
                next = TARGET;
                return true;
            } else {
                return false;
            }
            keep(c);
            next = FACTOR;
            return true;
        }

        private boolean takesTarget(char c) {
            if (!isLetter(c)) {
                return false;
            }
            text.target = c - 'a';
            next = EQUALS;
            return true;
        }

        private boolean takesEquals(char c) {
            if (c != '=') {
                return false;
            }
            side = LAID;
            minus = false;
            next = UNIT;
            return true;
        }

        private void closeComparison() {
            text.emit(relation == '<' ? Text.LESS : relation == '=' ? Text.SAME : Text.MORE, 0);
            closeFactor();
        }

        /** All "!" that stand right ahead of a factor bind to it alone. */
        private void closeFactor() {
            while (waits > 0 && waiting[waits - 1] == '!') {
                waits--;
                text.emit(Text.NOT, 0);
            }
            next = CLOSED;
        }

        /** One "&" and one "|" at most wait within one bracket: each new one releases the one ahead. */
        private void closeTerms() {
            release('&', Text.BOTH);
            release('|', Text.EITHER);
        }

        private void release(char sign, int kind) {
            if (waits > 0 && waiting[waits - 1] == sign) {
                waits--;
                text.emit(kind, 0);
            }
        }

        private void keep(char sign) {
            if (waits < MOST_LETTERS) {
                waiting[waits] = sign;
                waits++;
            }
        }

        private static boolean isLetter(char c) {
            return c >= 'a' && c <= 'h';
        }

        private static boolean isDigit(char c) {
            return c >= '0' && c <= '9';
        }
    }

    /** The rules, and which of them are kept ALWAYS (as bits). */
    private static final class Rules {
        final Text[] texts = new Text[MOST_RULES];
        int size = 0;
        int always = 0;
        private final int[] figures = new int[SECTORS];

        Rules() {
            for (int i = 0; i < MOST_RULES; i++) {
                texts[i] = new Text();
            }
        }

        boolean has(int rule) {
            return rule >= 0 && rule < size;
        }

        /** Which rules do not hold in a plate, as bits. */
        int failingIn(long plate) {
            unpack(plate, figures);
            int failing = 0;
            for (int i = 0; i < size; i++) {
                failing |= texts[i].isTrue(figures) ? 0 : 1 << i;
            }
            return failing;
        }
    }

    /** The steps. */
    private static final class Healing {
        final Text[] steps = new Text[MOST_STEPS];
        int size = 0;
        private final int[] figures = new int[SECTORS];

        Healing() {
            for (int i = 0; i < MOST_STEPS; i++) {
                steps[i] = new Text();
            }
        }

        /** The plate behind the steps from one on, up to another one without it. */
        long after(long plate, int from, int to) {
            unpack(plate, figures);
            for (int i = from; i < to; i++) {
                Text step = steps[i];
                if (step.isTrue(figures)) {
                    int sum = step.sum(figures);
                    figures[step.target & 7] = isFigure(sum) ? sum : figures[step.target & 7];
                }
            }
            return pack(figures);
        }

        long healed(long plate) {
            return after(plate, 0, size);
        }

        /** A step that laid nothing new needs no look: a cut behind it ends as one ahead of it. */
        boolean isSteady(long plate, long healed) {
            long part = plate;
            for (int i = 0; i < size; i++) {
                long behind = after(part, i, i + 1);
                if (behind != part && after(behind, 0, size) != healed) {
                    return false;
                }
                part = behind;
            }
            return true;
        }
    }

    /** FOUND(k): the plates from the least on, each with the least set of writes that leaves it. */
    private static final class Found {
        final long[] plates = new long[MOST_SETS];
        final int[] reached = new int[MOST_SETS];
        int size = 0;
        private int filledFor = NONE;

        void forget() {
            filledFor = NONE;
        }

        void fill(Program program, int k) {
            if (filledFor == k) {
                return;
            }
            gather(program, k);
            sort();
            dropLike();
            filledFor = k;
        }

        private void gather(Program program, int k) {
            int from = program.behindLastFlush(k);
            int sure = program.writesWithin(0, from);
            plates[0] = program.plateOf(sure);
            reached[0] = sure;
            size = 1;
            int epoch = 0;
            for (int i = from; i < k; i++) {
                Act act = program.acts[i];
                if (act.writes()) {
                    addReaching(act, i, epoch);
                } else if (act.sort == BARRIER) {
                    // the one that was added last has all that came so far: the next epoch begins with it
                    epoch = size - 1;
                }
            }
        }

        private void addReaching(Act act, int number, int epoch) {
            int end = size;
            for (int i = epoch; i < end && size < MOST_SETS; i++) {
                plates[size] = act.laidOn(plates[i]);
                reached[size] = reached[i] | 1 << number;
                size++;
            }
        }

        /** Shell's sort: it needs no room of its own. */
        private void sort() {
            for (int gap = size / 2; gap > 0; gap = gap == 2 ? 1 : gap * 5 / 11) {
                for (int i = gap; i < size; i++) {
                    sink(i, gap);
                }
            }
        }

        private void sink(int from, int gap) {
            long plate = plates[from];
            int set = reached[from];
            int i = from;
            while (i >= gap && (plates[i - gap] > plate || plates[i - gap] == plate && reached[i - gap] > set)) {
                plates[i] = plates[i - gap];
                reached[i] = reached[i - gap];
                i -= gap;
            }
            plates[i] = plate;
            reached[i] = set;
        }

        private void dropLike() {
            int left = 1;
            for (int i = 1; i < size; i++) {
                if (plates[i] != plates[left - 1]) {
                    plates[left] = plates[i];
                    reached[left] = reached[i];
                    left++;
                }
            }
            size = left;
        }
    }

    /**
     * The program, the rules and the steps, and what they make of the plate of each set of writes: its
     * verdict has the bits of the rules that fail in it healed, and UNSTEADY.
     */
    private static final class Verdicts {
        final Program program = new Program();
        final Rules rules = new Rules();
        final Healing healing = new Healing();
        /** Each verdict below the stamp of the time for which it holds. */
        private final int[] known = new int[MOST_SETS];
        private int stamp = 1;

        void forget() {
            stamp++;
        }

        int of(int reached) {
            int i = reached & MOST_SETS - 1;
            if (known[i] >> 8 != stamp) {
                int shown = program.shownOf(i) & MOST_SETS - 1;
                if (known[shown] >> 8 != stamp) {
                    long plate = program.plateOf(shown);
                    long healed = healing.after(plate, 0, healing.size);
                    int wrong = rules.failingIn(healed) | (healing.isSteady(plate, healed) ? 0 : UNSTEADY);
                    known[shown] = stamp << 8 | wrong;
                }
                known[i] = known[shown];
            }
            return known[i] & 255;
        }

        /** All that is wrong with the sets that have the sure ones and any of the free ones. */
        int ofEach(int sure, int free) {
            int sets = 1 << Integer.bitCount(free);
            int wrong = 0;
            int some = 0;
            for (int n = 0; n < sets; n++) {
                wrong |= of(sure | some);
                some = nextSet(some, free);
            }
            return wrong;
        }

        /** The least k at which a plate is BROKEN if the program has these writes alone; NONE. */
        int firstBroken(int writes) {
            int due = rules.always | UNSTEADY;
            int ahead = 0;
            int epoch = 0;
            int wrong = of(0);
            for (int i = 0; i < program.size && (wrong & due) == 0; i++) {
                Act act = program.acts[i];
                int bit = writes & 1 << i;
                if (bit != 0) {
                    wrong |= ofEach(ahead | bit, epoch);
                    epoch |= bit;
                } else if (act.endsEpoch()) {
                    ahead |= epoch;
                    epoch = 0;
                    wrong = act.sort == FLUSH ? of(ahead) : wrong;
                } else if (act.sort == TELL) {
                    due |= 1 << act.sector;
                }
                if ((wrong & due) != 0) {
                    return i + 1;
                }
            }
            return (wrong & due) != 0 ? 0 : NONE;
        }
    }

    /** FEWEST: tries all that may be put between, from the least on. */
    private static final class Placing {
        private static final int WIDTH = MOST_PLACED_ACTS + 1;

        /** What is wrong with an epoch that goes from one act to another one (without it). */
        private final int[] wrong = new int[WIDTH * WIDTH];
        private final int[] put = new int[MOST_PLACED_ACTS];
        private final int[] best = new int[MOST_PLACED_ACTS];
        private int places = 0;
        int bestCost = NONE;
        int bestPut = NONE;

        /** What comes behind an act in the best one. */
        int behind(int place) {
            return bestCost != NONE && place >= 0 && place < places ? best[place] : NONE;
        }

        void weigh(Program program, Verdicts verdicts) {
            int size = Math.min(program.size, MOST_PLACED_ACTS);
            for (int from = 0; from <= size; from++) {
                int ahead = program.writesWithin(0, from);
                int sum = verdicts.of(ahead);
                wrong[from * WIDTH + from] = sum;
                for (int to = from; to < size; to++) {
                    if (program.acts[to].writes()) {
                        sum |= verdicts.ofEach(ahead | 1 << to, program.writesWithin(from, to));
                    }
                    wrong[from * WIDTH + to + 1] = sum;
                }
            }
        }

        void search(Program program, int always, int barrierCost, int flushCost) {
            places = Math.max(0, Math.min(program.size, MOST_PLACED_ACTS) - 1);
            Arrays.fill(put, 0);
            bestCost = NONE;
            bestPut = NONE;
            int ways = 1;
            for (int i = 0; i < places; i++) {
                ways *= 3;
            }
            for (int way = 0; way < ways; way++) {
                int barriers = putOf(1);
                int flushes = putOf(2);
                int costs = barriers * barrierCost + flushes * flushCost;
                if (isBetter(costs, barriers + flushes) && isSafe(program, always)) {
                    bestCost = costs;
                    bestPut = barriers + flushes;
                    System.arraycopy(put, 0, best, 0, MOST_PLACED_ACTS);
                }
                goOn();
            }
        }

        private int putOf(int sort) {
            int many = 0;
            for (int i = 0; i < places; i++) {
                many += put[i] == sort ? 1 : 0;
            }
            return many;
        }

        /** Of like ones the first that was tried stays. */
        private boolean isBetter(int costs, int many) {
            return bestCost == NONE || costs < bestCost || costs == bestCost && many < bestPut;
        }

        /** The next way: the last place counts fastest. */
        private void goOn() {
            int i = places - 1;
            while (i >= 0 && put[i] == 2) {
                put[i] = 0;
                i--;
            }
            if (i >= 0) {
                put[i]++;
            }
        }

        /** What is put breaks nothing by itself, so it is looked at behind the program's own acts alone. */
        private boolean isSafe(Program program, int always) {
            int due = always | UNSTEADY;
            int earlier = 0;
            int from = 0;
            boolean is = (wrong[0] & due) == 0;
            for (int i = 0; i <= places && i < program.size && is; i++) {
                Act act = program.acts[i];
                if (act.endsEpoch()) {
                    earlier = act.sort == FLUSH ? 0 : earlier | wrong[from * WIDTH + i];
                    from = i + 1;
                }
                due |= act.sort == TELL ? 1 << act.sector : 0;
                is = ((earlier | wrong[from * WIDTH + i + 1]) & due) == 0;
                if (put[i] != 0) {
                    earlier = put[i] == 2 ? 0 : earlier | wrong[from * WIDTH + i + 1];
                    from = i + 1;
                }
            }
            return is;
        }
    }
}
