import java.util.ArrayList;
import java.util.List;
import java.util.Random;

/**
 * FEWEST against programs into which barriers and flushes were really put: all ways of random programs are tried, and
 * safe() says which of them will do. NEEDLESS against programs that were made without the write.
 */
public final class PutBetweenTest {
    private static final int DRAFTS = 400;
    private static final int[][] COSTS = {{1, 5}, {1, 1}, {1, 2}, {2, 1}, {1, 3}, {3, 6}, {9, 99}};
    private static int looked = 0;
    private static int wrong = 0;
    /** How often a rule of FEWEST chose: the fewest put, or the least behind the first acts. */
    private static int byPut = 0;
    private static int byPlace = 0;
    private static int unmendable = 0;

    public static void main(String[] args) {
        for (int seed = 0; seed < DRAFTS; seed++) {
            Draft draft = new Draft(seed);
            fewest(draft);
            needless(draft);
        }
        System.out.println(looked + " looks, " + wrong + " wrong; " + byPut + " times the fewest put chose, " + byPlace
            + " times the places, " + unmendable + " programs have none");
        if (wrong != 0 || byPut == 0 || byPlace == 0 || unmendable == 0) {
            System.exit(1);
        }
    }

    private static void due(Draft draft, String call, long got, long want) {
        looked++;
        if (got != want) {
            wrong++;
            System.out.println(draft + ": " + call + " answered " + got + ", due is " + want);
        }
    }

    private static void fewest(Draft draft) {
        List<int[]> safe = new ArrayList<>();
        int places = draft.acts.size() - 1;
        for (int way = 0; way < Math.round(Math.pow(3, places)); way++) {
            int[] put = new int[places];
            for (int i = places - 1, left = way; i >= 0; i--, left /= 3) {
                put[i] = left % 3;
            }
            if (draft.made(put, -1).safe() == 1) {
                safe.add(put);
            }
        }
        unmendable += safe.isEmpty() ? 1 : 0;
        for (int[] costs : COSTS) {
            int[] best = best(safe, costs);
            LeftStates x = draft.made(new int[places], -1);
            x.cost(0, costs[0]);
            x.cost(1, costs[1]);
            String with = " with costs " + costs[0] + ", " + costs[1];
            due(draft, "fewest(0)" + with, x.fewest(0), best == null ? -1 : costOf(best, costs));
            due(draft, "fewest(1)" + with, x.fewest(1), best == null ? -1 : putIn(best));
            for (int i = 0; i < 7; i++) {
                due(draft, "fewest(" + (10 + i) + ")" + with, x.fewest(10 + i), best == null || i >= places ? -1 : best[i]);
            }
        }
    }

    /** The ways come in the order of what they have behind the first act, then the second: of like ones the first stays. */
    private static int[] best(List<int[]> safe, int[] costs) {
        int[] first = null;
        int[] best = null;
        int like = 0;
        for (int[] put : safe) {
            if (first == null || costOf(put, costs) < costOf(first, costs)) {
                first = put;
            }
            int less = best == null ? -1 : costOf(put, costs) - costOf(best, costs);
            less = less == 0 ? putIn(put) - putIn(best) : less;
            like = less < 0 ? 1 : less == 0 ? like + 1 : like;
            best = less < 0 ? put : best;
        }
        byPut += best != first ? 1 : 0;
        byPlace += like > 1 ? 1 : 0;
        return best;
    }

    private static int costOf(int[] put, int[] costs) {
        int sum = 0;
        for (int p : put) {
            sum += p == 0 ? 0 : costs[p - 1];
        }
        return sum;
    }

    private static int putIn(int[] put) {
        return costOf(put, new int[] {1, 1});
    }

    private static void needless(Draft draft) {
        int[] nothing = new int[draft.acts.size() - 1];
        LeftStates x = draft.made(nothing, -1);
        int bits = 0;
        for (int i = 0; i < draft.acts.size(); i++) {
            LeftStates less = draft.made(nothing, i);
            if (draft.acts.get(i)[0] <= 1 && less.end() == x.end() && less.safe() == 1) {
                bits |= 1 << i;
            }
        }
        due(draft, "needless()", x.needless(), bits);
    }

    /** A program whose writes lean on one another: rules ask that one reached ahead of another one, or has when it is told. */
    private static final class Draft {
        final List<int[]> acts = new ArrayList<>();
        private final List<String> rules = new ArrayList<>();
        private final List<String> steps = new ArrayList<>();
        private final int seed;
        private final Random random;

        Draft(int seed) {
            this.seed = seed;
            random = new Random(seed * 104729L + 5);
            rules.add(random.nextInt(2) == 0 ? leaning() : "(b=0|a=1)&(d=0|c=1)");
            rules.add(told(2));
            rules.add(told(3));
            if (random.nextInt(6) == 0) {
                steps.add(sector(4) + "=1&" + sector(4) + "=0:" + sector(4) + "=" + random.nextInt(2));
            }
            int[][] shape = {{0, 0, 1}, {0, 1, 1}, {4, 1}, {0, 2, 1}, {0, 3, 1}, {4, 2}};
            for (int[] act : shape) {
                acts.add(random.nextInt(8) == 0 ? other() : act);
            }
            if (random.nextInt(4) == 0) {
                acts.remove(random.nextInt(6));
            }
            if (random.nextInt(4) == 0) {
                acts.add(acts.remove(random.nextInt(acts.size())));
            }
        }

        private char sector(int many) {
            return (char) ('a' + random.nextInt(many));
        }

        /** One to three times: a later sector is 0 unless an earlier one is 1. */
        private String leaning() {
            StringBuilder text = new StringBuilder();
            for (int n = random.nextInt(3); n >= 0; n--) {
                int later = 1 + random.nextInt(3);
                text.append('(').append((char) ('a' + later)).append("=0|").append(sector(later)).append("=1)").append(n > 0 ? "&" : "");
            }
            return text.toString();
        }

        private String told(int many) {
            return random.nextInt(4) == 0 ? leaning() : sector(many) + "=1";
        }

        private int[] other() {
            int s = random.nextInt(4);
            switch (random.nextInt(6)) {
                case 0: return new int[] {1, s, 1, (s + 1 + random.nextInt(3)) % 4, 1};
                case 1: return new int[] {2};
                case 2: return new int[] {3};
                case 3: return new int[] {4, 1 + random.nextInt(2)};
                default: return new int[] {0, s, random.nextInt(3)};
            }
        }

        /** The program with what is put behind each of its acts, or without one of them. */
        LeftStates made(int[] put, int without) {
            LeftStates x = new LeftStates();
            for (String text : rules) {
                Help.rule(x, text);
            }
            for (String text : steps) {
                Help.step(x, text);
            }
            x.always(0, true);
            for (int i = 0; i < acts.size(); i++) {
                if (i != without) {
                    add(x, acts.get(i));
                }
                if (i < put.length && put[i] != 0) {
                    add(x, new int[] {1 + put[i]});
                }
            }
            return x;
        }

        private static void add(LeftStates x, int[] act) {
            switch (act[0]) {
                case 0: x.write(act[1], act[2]); break;
                case 1: x.whole(act[1], act[2], act[3], act[4]); break;
                case 2: x.barrier(); break;
                case 3: x.flush(); break;
                default: x.tell(act[1]);
            }
        }

        @Override
        public String toString() {
            StringBuilder text = new StringBuilder("seed " + seed + ", rules " + rules + ", steps " + steps + ", acts");
            for (int[] act : acts) {
                text.append(' ').append(java.util.Arrays.toString(act));
            }
            return text.toString();
        }
    }
}
