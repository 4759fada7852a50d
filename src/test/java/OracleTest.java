import java.util.ArrayList;
import java.util.HashMap;
import java.util.List;
import java.util.Map;
import java.util.Random;
import java.util.TreeMap;
import java.util.function.Predicate;
import java.util.function.ToIntFunction;

/** Random runs of calls, each answer compared with that of a class that does just what the document's words say. */
public final class OracleTest {
    public static void main(String[] args) {
        int runs = 4000;
        int calls = 0;
        for (int run = 0; run < runs; run++) {
            int done = new Run(run).go();
            if (done < 0) {
                System.exit(1);
            }
            calls += done;
        }
        System.out.println(runs + " runs, " + calls + " calls, all as due");
    }

    /** One run on a new object: calls that are drawn from a seed. */
    private static final class Run {
        private final Random random;
        private final int seed;
        private final LeftStates x = new LeftStates();
        private final Plain y = new Plain();
        private final List<String> told = new ArrayList<>();
        private final boolean wild;
        private final int sectors;
        private final int numbers;

        Run(int seed) {
            this.seed = seed;
            random = new Random(seed * 7919L + 17);
            wild = seed % 5 == 0;
            sectors = 2 + random.nextInt(7);
            numbers = random.nextInt(3) == 0 ? 100 : 2 + random.nextInt(4);
        }

        int go() {
            int calls = 20 + random.nextInt(140);
            for (int n = 0; n < calls; n++) {
                if (!call()) {
                    return -1;
                }
            }
            return check("digest()", x.digest(), y.digest()) ? calls + 1 : -1;
        }

        private boolean check(String call, long got, long want) {
            told.add(call + " = " + got);
            if (got == want) {
                return true;
            }
            System.out.println("seed " + seed + ": " + call + " answered " + got + ", due is " + want);
            for (String row : told) {
                System.out.println("    " + row);
            }
            return false;
        }

        private int odd(int usual) {
            if (random.nextInt(wild ? 6 : 40) != 0) {
                return usual;
            }
            int[] odd = {-1, -2, 7, 8, 9, 10, 12, 13, 16, 17, 99, 100, Integer.MIN_VALUE, Integer.MAX_VALUE, 31, 32, 33};
            return odd[random.nextInt(odd.length)];
        }

        private int sector() { return odd(random.nextInt(sectors)); }
        private int number() { return odd(random.nextInt(numbers)); }
        private int actNumber() { return odd(random.nextInt(Math.max(1, y.acts.size()))); }
        private int k() { return odd(random.nextInt(y.acts.size() + 1)); }
        private int ruleNumber() { return odd(random.nextInt(Math.max(1, y.rules.size()))); }

        private long plate() {
            int kind = random.nextInt(wild ? 6 : 12);
            if (kind == 0) {
                long[] odd = {-1L, -2L, 9999999999999999L, 10000000000000000L, Long.MIN_VALUE, Long.MAX_VALUE};
                return odd[random.nextInt(odd.length)];
            }
            if (kind == 1) {
                return (long) (random.nextDouble() * 1e16);
            }
            long plate = 0;
            for (int s = 0; s < 8; s++) {
                plate = plate * 100 + (8 - s <= sectors ? random.nextInt(numbers) : 0);
            }
            return plate;
        }

        private boolean call() {
            int sort = random.nextInt(100);
            if (sort < 18) {
                return programCall(random.nextInt(17));
            }
            if (sort < 32) {
                return textCall();
            }
            return askCall(random.nextInt(34));
        }

        private boolean programCall(int which) {
            int s = sector(), v = number(), t = sector(), w = number();
            switch (which) {
                case 0: return check("sector(" + s + ", " + v + ")", x.sector(s, v), y.sector(s, v));
                case 1: case 2: case 3: case 4: case 5: case 6:
                    return check("write(" + s + ", " + v + ")", x.write(s, v), y.write(s, v));
                case 7: case 8:
                    return check("whole(" + s + ", " + v + ", " + t + ", " + w + ")", x.whole(s, v, t, w), y.whole(s, v, t, w));
                case 9: case 10: return check("barrier()", x.barrier(), y.barrier());
                case 11: return check("flush()", x.flush(), y.flush());
                case 12: case 13: {
                    int r = ruleNumber();
                    return check("tell(" + r + ")", x.tell(r), y.tell(r));
                }
                case 14: case 15: return check("undo()", x.undo(), y.undo());
                default: {
                    int i = actNumber(), j = actNumber();
                    return check("swap(" + i + ", " + j + ")", x.swap(i, j), y.swap(i, j));
                }
            }
        }

        private boolean textCall() {
            int sort = random.nextInt(12);
            if (sort == 0) {
                return check("bare()", x.bare(), y.bare());
            }
            if (sort == 1) {
                return check("blank()", x.blank(), y.blank());
            }
            if (sort == 2) {
                long w = random.nextInt(3) == 0 ? random.nextLong() : random.nextLong() & 0x7e7e7e7eL;
                return check("letters(" + w + ")", x.letters(w), y.letters(w)) && asks();
            }
            boolean step = random.nextInt(3) == 0;
            if (random.nextInt(3) != 0 && !check("blank()", x.blank(), y.blank())) {
                return false;
            }
            String text = terms(random.nextInt(4)) + (step ? ":" + letter() + "=" + sum() : "");
            if (random.nextInt(wild ? 3 : 10) == 0) {
                text = spoil(text);
            }
            for (int i = 0; i < text.length(); i += 8) {
                long w = Help.word(text, i);
                if (!check("letters(" + w + ")", x.letters(w), y.letters(w))) {
                    return false;
                }
            }
            return asks() && read(step);
        }

        private boolean asks() {
            int sort = odd(random.nextInt(2));
            return random.nextInt(2) == 0 || check("good(" + sort + ")", x.good(sort), y.good(sort));
        }

        private boolean read(boolean step) {
            if (step) {
                return check("step()", x.step(), y.step());
            }
            if (!check("rule()", x.rule(), y.rule())) {
                return false;
            }
            int r = ruleNumber();
            boolean is = random.nextBoolean();
            return random.nextInt(3) == 0 || check("always(" + r + ", " + is + ")", x.always(r, is), y.always(r, is));
        }

        private String letter() { return "" + (char) ('a' + random.nextInt(sectors)); }

        private String unit() {
            return random.nextInt(3) != 0 ? letter() : "" + (random.nextInt(6) == 0 ? random.nextInt(100) : random.nextInt(numbers));
        }

        private String sum() {
            StringBuilder text = new StringBuilder(unit());
            while (random.nextInt(3) == 0) {
                text.append(random.nextBoolean() ? '+' : '-').append(unit());
            }
            return text.toString();
        }

        private String terms(int depth) {
            StringBuilder text = new StringBuilder(term(depth));
            while (random.nextInt(3) == 0) {
                text.append('|').append(term(depth));
            }
            return text.toString();
        }

        private String term(int depth) {
            StringBuilder text = new StringBuilder(factor(depth));
            while (random.nextInt(4) == 0) {
                text.append('&').append(factor(depth));
            }
            return text.toString();
        }

        private String factor(int depth) {
            int sort = random.nextInt(8);
            if (sort == 0) {
                return "!" + factor(depth);
            }
            if (sort < 3 && depth > 0) {
                return "(" + terms(depth - 1) + ")";
            }
            return sum() + "<=>".charAt(random.nextInt(3)) + sum();
        }

        private String spoil(String text) {
            String signs = "abhi09+-<=>&|!():. A~";
            int at = random.nextInt(text.length());
            char sign = signs.charAt(random.nextInt(signs.length()));
            switch (random.nextInt(3)) {
                case 0: return text.substring(0, at) + text.substring(at + 1) + "";
                case 1: return text.substring(0, at) + sign + text.substring(at);
                default: return text.substring(0, at) + sign + text.substring(at + 1);
            }
        }

        private boolean askCall(int which) {
            int r = ruleNumber(), k = k(), i = actNumber(), j = actNumber(), s = sector(), two = odd(random.nextInt(2));
            long p = plate();
            boolean is = random.nextBoolean();
            switch (which) {
                case 0: case 1: {
                    int what = odd(random.nextInt(5));
                    return check("act(" + i + ", " + what + ")", x.act(i, what), y.act(i, what));
                }
                case 2: return check("end()", x.end(), y.end());
                case 3: return check("always(" + r + ", " + is + ")", x.always(r, is), y.always(r, is));
                case 4: case 5: return check("holds(" + r + ", " + p + ")", x.holds(r, p), y.holds(r, p));
                case 6: return check("found(" + k + ")", x.found(k), y.found(k));
                case 7: case 8: {
                    int at = odd(random.nextInt(Math.max(1, Math.max(0, y.found(k)) + 1)));
                    return check("plate(" + k + ", " + at + ")", x.plate(k, at), y.plate(k, at));
                }
                case 9: return check("heal(" + p + ")", x.heal(p), y.heal(p));
                case 10: case 11: {
                    int steps = odd(random.nextInt(y.steps.size() + 1));
                    return check("cut(" + p + ", " + steps + ")", x.cut(p, steps), y.cut(p, steps));
                }
                case 12: return check("steady(" + p + ")", x.steady(p), y.steady(p));
                case 13: case 14:
                    return check("kept(" + r + ", " + k + ", " + two + ")", x.kept(r, k, two), y.kept(r, k, two));
                case 15: case 16: return check("broken(" + k + ")", x.broken(k), y.broken(k));
                case 17: case 18:
                    return check("bounds(" + s + ", " + k + ", " + two + ")", x.bounds(s, k, two), y.bounds(s, k, two));
                case 19: return check("safe()", x.safe(), y.safe());
                case 20: case 21: case 22: {
                    int what = odd(random.nextInt(4));
                    return check("shortest(" + what + ")", x.shortest(what), y.shortest(what));
                }
                case 23: {
                    int v = odd(1 + random.nextInt(9));
                    return check("cost(" + two + ", " + v + ")", x.cost(two, v), y.cost(two, v));
                }
                case 24: case 25: {
                    int what = odd(random.nextInt(3) == 0 ? random.nextInt(2) : 10 + random.nextInt(7));
                    return check("fewest(" + what + ")", x.fewest(what), y.fewest(what));
                }
                case 26: case 27: return check("needless()", x.needless(), y.needless());
                case 28: case 29: case 30: case 31:
                    return check("order(" + r + ", " + i + ", " + j + ")", x.order(r, i, j), y.order(r, i, j));
                case 32: {
                    int what = odd(random.nextInt(7));
                    return check("count(" + what + ")", x.count(what), y.count(what));
                }
                default: return check("digest()", x.digest(), y.digest());
            }
        }
    }

    /** A step: its rule, its sector, its sum. */
    private static final class Step {
        Predicate<int[]> rule;
        int sector;
        ToIntFunction<int[]> sum;
    }

    /** Reads a text by recursion; null where there is none. */
    private static final class Descent {
        private final String text;
        private int at = 0;
        private boolean wrong = false;

        Descent(String text) { this.text = text; }

        static Predicate<int[]> rule(String text) {
            Descent d = new Descent(text);
            Predicate<int[]> rule = d.terms();
            return d.wrong || d.at != text.length() ? null : rule;
        }

        static Step step(String text) {
            Descent d = new Descent(text);
            Step step = new Step();
            step.rule = d.terms();
            d.need(':');
            char c = d.peek();
            d.at++;
            d.wrong |= c < 'a' || c > 'h';
            step.sector = c - 'a';
            d.need('=');
            step.sum = d.sum();
            return d.wrong || d.at != text.length() ? null : step;
        }

        private char peek() { return at < text.length() ? text.charAt(at) : 0; }

        private void need(char c) {
            wrong |= peek() != c;
            at++;
        }

        private Predicate<int[]> terms() {
            Predicate<int[]> all = term();
            while (!wrong && peek() == '|') {
                at++;
                Predicate<int[]> more = term(), had = all;
                all = p -> had.test(p) || more.test(p);
            }
            return all;
        }

        private Predicate<int[]> term() {
            Predicate<int[]> all = factor();
            while (!wrong && peek() == '&') {
                at++;
                Predicate<int[]> more = factor(), had = all;
                all = p -> had.test(p) && more.test(p);
            }
            return all;
        }

        private Predicate<int[]> factor() {
            if (peek() == '!') {
                at++;
                Predicate<int[]> of = factor();
                return p -> !of.test(p);
            }
            if (peek() == '(') {
                at++;
                Predicate<int[]> of = terms();
                need(')');
                return of;
            }
            ToIntFunction<int[]> left = sum();
            char c = peek();
            wrong |= c != '<' && c != '=' && c != '>';
            at++;
            if (wrong) {
                return p -> false;
            }
            ToIntFunction<int[]> right = sum();
            return p -> {
                int l = left.applyAsInt(p), r = right.applyAsInt(p);
                return c == '<' ? l < r : c == '=' ? l == r : l > r;
            };
        }

        private ToIntFunction<int[]> sum() {
            ToIntFunction<int[]> all = unit();
            while (!wrong && (peek() == '+' || peek() == '-')) {
                int sign = peek() == '+' ? 1 : -1;
                at++;
                ToIntFunction<int[]> more = unit(), had = all;
                all = p -> had.applyAsInt(p) + sign * more.applyAsInt(p);
            }
            return all;
        }

        private ToIntFunction<int[]> unit() {
            char c = peek();
            if (c >= 'a' && c <= 'h') {
                at++;
                return p -> p[c - 'a'];
            }
            int from = at;
            while (at < from + 2 && peek() >= '0' && peek() <= '9') {
                at++;
            }
            if (at == from) {
                wrong = true;
                return p -> 0;
            }
            int number = Integer.parseInt(text.substring(from, at));
            return p -> number;
        }
    }

    /** The document's words, done in their plainest way. */
    private static final class Plain {
        final List<int[]> acts = new ArrayList<>();
        final List<Predicate<int[]>> rules = new ArrayList<>();
        final List<Boolean> always = new ArrayList<>();
        final List<Step> steps = new ArrayList<>();
        private final int[] first = new int[8];
        private String page = "";
        private final int[] costs = {1, 5};
        private int done = 0;

        private static boolean in(long v, long least, long greatest) { return v >= least && v <= greatest; }
        private static final long LAST = 9999999999999999L;

        private static long number(int[] p) {
            long n = 0;
            for (int s = 7; s >= 0; s--) {
                n = n * 100 + p[s];
            }
            return n;
        }

        private static int[] sectors(long n) {
            int[] p = new int[8];
            for (int s = 0; s < 8; s++, n /= 100) {
                p[s] = (int) (n % 100);
            }
            return p;
        }

        int sector(int s, int v) {
            if (!in(s, 0, 7)) return -101;
            if (!in(v, 0, 99)) return -102;
            int was = first[s];
            first[s] = v;
            return was;
        }

        private int add(int... act) {
            if (acts.size() == 12) return -104;
            acts.add(act);
            return acts.size() - 1;
        }

        int write(int s, int v) { return !in(s, 0, 7) ? -101 : !in(v, 0, 99) ? -102 : add(0, s, v, -1, -1); }

        int whole(int s, int v, int t, int w) {
            if (!in(s, 0, 7) || !in(t, 0, 7) || s == t) return -101;
            return !in(v, 0, 99) || !in(w, 0, 99) ? -102 : add(1, s, v, t, w);
        }

        int barrier() { return add(2, -1, -1, -1, -1); }
        int flush() { return add(3, -1, -1, -1, -1); }
        int tell(int r) { return !in(r, 0, rules.size() - 1) ? -101 : add(4, r, -1, -1, -1); }

        int undo() {
            if (acts.isEmpty()) return -103;
            acts.remove(acts.size() - 1);
            return acts.size();
        }

        int swap(int i, int j) {
            if (!in(i, 0, acts.size() - 1) || !in(j, 0, acts.size() - 1)) return -101;
            int[] a = acts.get(i);
            acts.set(i, acts.get(j));
            acts.set(j, a);
            return 1;
        }

        int act(int i, int what) {
            return !in(i, 0, acts.size() - 1) ? -101 : !in(what, 0, 4) ? -102 : acts.get(i)[what];
        }

        long end() { return left(acts, (1 << acts.size()) - 1); }

        int letters(long w) {
            String more = "";
            for (int i = 0; i < 8; i++) {
                int code = (int) (w >>> 8 * i & 255);
                if (code > 126) return -102;
                if (code != 0 && more.length() < i) return -102;
                if (code != 0) more += (char) code;
            }
            if (page.length() + more.length() > 60) return -104;
            page += more;
            return page.length();
        }

        int blank() {
            int had = page.length();
            page = "";
            return had;
        }

        int good(int sort) {
            if (sort != 0 && sort != 1) return -102;
            int many = 0;
            for (int n = 1; n <= page.length(); n++) {
                if (begins(page.substring(0, n), sort)) many = n;
            }
            return many;
        }

        private static boolean begins(String text, int sort) {
            int open = 0;
            for (char c : text.toCharArray()) {
                open += c == '(' ? 1 : c == ')' ? -1 : 0;
            }
            if (open < 0) return false;
            for (String more : new String[] {"", "a", "=a", "a=a"}) {
                String whole = text + more + ")".repeat(open);
                if (sort == 0 && Descent.rule(whole) != null) return true;
                if (sort == 1 && (Descent.step(whole + ":a=a") != null || Descent.step(text + more) != null)) return true;
            }
            return false;
        }

        int rule() {
            Predicate<int[]> rule = Descent.rule(page);
            if (rule == null) return -103;
            if (rules.size() == 6) return -104;
            rules.add(rule);
            always.add(false);
            page = "";
            return rules.size() - 1;
        }

        int step() {
            Step step = Descent.step(page);
            if (step == null) return -103;
            if (steps.size() == 8) return -104;
            steps.add(step);
            page = "";
            return steps.size() - 1;
        }

        int bare() {
            int had = steps.size();
            steps.clear();
            return had;
        }

        int always(int r, boolean is) {
            return !in(r, 0, rules.size() - 1) ? -101 : always.set(r, is) ? 1 : 0;
        }

        int holds(int r, long p) {
            return !in(r, 0, rules.size() - 1) ? -101 : !in(p, 0, LAST) ? -102 : rules.get(r).test(sectors(p)) ? 1 : 0;
        }

        /** The plate on which these of the acts lie. */
        private long left(List<int[]> acts, int set) {
            int[] p = first.clone();
            for (int i = 0; i < acts.size(); i++) {
                int[] a = acts.get(i);
                if ((set >> i & 1) != 0 && a[0] <= 1) {
                    p[a[1]] = a[2];
                    if (a[0] == 1) p[a[3]] = a[4];
                }
            }
            return number(p);
        }

        /** FOUND(k), each plate with the least set that leaves it. */
        private TreeMap<Long, Integer> foundIn(List<int[]> acts, int k) {
            int[] epoch = new int[k];
            int epochs = 0, surely = 0, writes = 0;
            for (int i = 0; i < k; i++) {
                int sort = acts.get(i)[0];
                epoch[i] = epochs;
                if (sort <= 1) writes |= 1 << i;
                if (sort == 2 || sort == 3) epochs++;
                if (sort == 3) surely = epochs;
            }
            TreeMap<Long, Integer> found = new TreeMap<>();
            for (int set = 0; set < 1 << k; set++) {
                if ((set & ~writes) == 0 && mayReach(set, writes, epoch, surely, epochs)) {
                    found.putIfAbsent(left(acts, set), set);
                }
            }
            return found;
        }

        private static boolean mayReach(int set, int writes, int[] epoch, int surely, int epochs) {
            for (int one = surely; one <= epochs; one++) {
                boolean may = true;
                for (int i = 0; i < epoch.length; i++) {
                    boolean is = (set >> i & 1) != 0, write = (writes >> i & 1) != 0;
                    may &= !write || (epoch[i] < one ? is : epoch[i] == one || !is);
                }
                if (may) return true;
            }
            return false;
        }

        int found(int k) { return !in(k, 0, acts.size()) ? -102 : foundIn(acts, k).size(); }

        long plate(int k, int i) {
            if (!in(k, 0, acts.size())) return -2;
            List<Long> all = new ArrayList<>(foundIn(acts, k).keySet());
            return in(i, 0, all.size() - 1) ? all.get(i) : -1;
        }

        private long steps(long plate, int many) {
            int[] p = sectors(plate);
            for (Step step : steps.subList(0, many)) {
                if (step.rule.test(p)) {
                    int sum = step.sum.applyAsInt(p);
                    if (in(sum, 0, 99)) p[step.sector] = sum;
                }
            }
            return number(p);
        }

        long heal(long p) { return !in(p, 0, LAST) ? -2 : steps(p, steps.size()); }
        long cut(long p, int j) { return !in(p, 0, LAST) ? -2 : !in(j, 0, steps.size()) ? -1 : heal(steps(p, j)); }

        int steady(long p) {
            if (!in(p, 0, LAST)) return -102;
            for (int j = 0; j <= steps.size(); j++) {
                if (cut(p, j) != heal(p)) return 0;
            }
            return 1;
        }

        int kept(int r, int k, int how) {
            if (!in(r, 0, rules.size() - 1)) return -101;
            if (!in(k, 0, acts.size()) || !in(how, 0, 1)) return -102;
            int many = 0;
            for (long p : foundIn(acts, k).keySet()) {
                many += holds(r, how == 0 ? p : heal(p));
            }
            return many;
        }

        private boolean isBroken(List<int[]> acts, int k, long p) {
            for (int r = 0; r < rules.size(); r++) {
                boolean due = always.get(r);
                for (int[] a : acts.subList(0, k)) {
                    due |= a[0] == 4 && a[1] == r;
                }
                if (due && holds(r, heal(p)) == 0) return true;
            }
            return steady(p) == 0;
        }

        int broken(int k) {
            if (!in(k, 0, acts.size())) return -102;
            int many = 0;
            for (long p : foundIn(acts, k).keySet()) {
                many += isBroken(acts, k, p) ? 1 : 0;
            }
            return many;
        }

        int bounds(int s, int k, int side) {
            if (!in(s, 0, 7)) return -101;
            if (!in(k, 0, acts.size()) || !in(side, 0, 1)) return -102;
            int least = 99, greatest = 0;
            for (long p : foundIn(acts, k).keySet()) {
                least = Math.min(least, sectors(p)[s]);
                greatest = Math.max(greatest, sectors(p)[s]);
            }
            return side == 0 ? least : greatest;
        }

        private boolean isSafe(List<int[]> acts) {
            for (int k = 0; k <= acts.size(); k++) {
                for (long p : foundIn(acts, k).keySet()) {
                    if (isBroken(acts, k, p)) return false;
                }
            }
            return true;
        }

        int safe() { return isSafe(acts) ? 1 : 0; }

        long shortest(int what) {
            if (!in(what, 0, 3)) return -2;
            for (int k = 0; k <= acts.size(); k++) {
                for (Map.Entry<Long, Integer> e : foundIn(acts, k).entrySet()) {
                    if (isBroken(acts, k, e.getKey())) {
                        return what == 0 ? k : what == 1 ? e.getKey() : what == 2 ? e.getValue() : heal(e.getKey());
                    }
                }
            }
            return -1;
        }

        int cost(int which, int v) {
            if (!in(which, 0, 1)) return -101;
            if (!in(v, 1, which == 0 ? 9 : 99)) return -102;
            int was = costs[which];
            costs[which] = v;
            return was;
        }

        int fewest(int what) {
            if (!in(what, 0, 1) && !in(what, 10, 16)) return -102;
            if (acts.size() > 8 || done == 12) return -103;
            done++;
            int[] best = least();
            int places = Math.max(0, acts.size() - 1);
            if (best == null) return -1;
            int many = 0, sum = 0;
            for (int put : best) {
                many += put == 0 ? 0 : 1;
                sum += put == 0 ? 0 : costs[put - 1];
            }
            return what == 0 ? sum : what == 1 ? many : what - 10 < places ? best[what - 10] : -1;
        }

        /** All that may be put, ordered as told; the first that makes it safe. */
        private int[] least() {
            int places = Math.max(0, acts.size() - 1);
            int ways = (int) Math.round(Math.pow(3, places));
            List<int[]> all = new ArrayList<>();
            for (int way = 0; way < ways; way++) {
                int[] put = new int[places];
                int left = way;
                for (int i = places - 1; i >= 0; i--, left /= 3) {
                    put[i] = left % 3;
                }
                all.add(put);
            }
            // the sort is stable, and the list begins in the order of what stands behind the first act, then the second
            all.sort((a, b) -> price(a) != price(b) ? Integer.compare(price(a), price(b)) : Integer.compare(puts(a), puts(b)));
            Map<String, Boolean> known = new HashMap<>();
            for (int[] put : all) {
                List<int[]> more = new ArrayList<>();
                StringBuilder shape = new StringBuilder();
                for (int i = 0; i < acts.size(); i++) {
                    more.add(acts.get(i));
                    if (i < places && put[i] != 0) more.add(new int[] {put[i] + 1, -1, -1, -1, -1});
                    shape.append(i < places ? put[i] : 0);
                }
                if (known.computeIfAbsent(shape.toString(), s -> isSafe(more))) return put;
            }
            return null;
        }

        private int price(int[] put) {
            int sum = 0;
            for (int p : put) sum += p == 0 ? 0 : costs[p - 1];
            return sum;
        }

        private static int puts(int[] put) {
            int sum = 0;
            for (int p : put) sum += p == 0 ? 0 : 1;
            return sum;
        }

        int needless() {
            int bits = 0;
            for (int i = 0; i < acts.size(); i++) {
                List<int[]> less = new ArrayList<>(acts);
                int[] gone = less.remove(i);
                if (gone[0] <= 1 && left(less, (1 << less.size()) - 1) == end() && isSafe(less)) bits |= 1 << i;
            }
            return bits;
        }

        int order(int r, int i, int j) {
            if (!in(r, 0, rules.size() - 1) || !in(i, 0, acts.size() - 1) || !in(j, 0, acts.size() - 1)) return -101;
            if (acts.get(i)[0] > 1 || acts.get(j)[0] > 1 || i == j) return -101;
            for (int n = Math.min(i, j); n < acts.size(); n++) {
                int sort = acts.get(n)[0];
                if (sort == 3 || sort == 2 && n < Math.max(i, j)) return -103;
            }
            int from = i, to = i;
            while (from > 0 && acts.get(from - 1)[0] != 2 && acts.get(from - 1)[0] != 3) from--;
            while (to < acts.size() && acts.get(to)[0] != 2 && acts.get(to)[0] != 3) to++;
            int many = 0;
            for (int set = 0; set < 1 << acts.size(); set++) {
                boolean may = (set >> j & 1) != 0 && (set >> i & 1) == 0;
                for (int n = 0; n < acts.size() && may; n++) {
                    boolean is = (set >> n & 1) != 0;
                    may = acts.get(n)[0] > 1 ? !is : n < from ? is : n < to || !is;
                }
                if (may) many += 1 - holds(r, heal(left(acts, set)));
            }
            return many;
        }

        int count(int what) {
            int writes = 0, epochs = 0;
            boolean has = false;
            for (int[] a : acts) {
                if (a[0] <= 1) writes++;
                if (a[0] <= 1 && !has) epochs++;
                has = a[0] <= 1 || has && a[0] == 4;
            }
            int[] told = {acts.size(), rules.size(), steps.size(), page.length(), epochs, writes, done};
            return in(what, 0, 6) ? told[what] : -102;
        }

        long digest() {
            List<Long> all = new ArrayList<>();
            all.add(number(first));
            for (int[] a : acts) for (int v : a) all.add((long) v);
            all.add(end());
            for (int r = 0; r < rules.size(); r++) {
                all.add(always.get(r) ? 1L : 0L);
                all.add((long) holds(r, number(first)));
            }
            for (int k = 0; k <= acts.size(); k++) all.add((long) found(k));
            all.add(heal(number(first)));
            all.add((long) costs[0]);
            all.add((long) costs[1]);
            for (char c : page.toCharArray()) all.add((long) c);
            for (int what = 0; what <= 6; what++) all.add((long) count(what));
            long h = 269;
            for (long v : all) h = 31 * h + v;
            return h;
        }
    }
}
