import java.util.List;
import java.util.function.Supplier;
import java.util.function.ToLongFunction;

/** A state in which calls are refused: objects of it can be made again and again, each like the others. */
final class State {
    static final State NEW = new State("a new object", LeftStates::new);
    static final State MIDDLE = new State("a middling object", State::middle);
    static final State CROWDED = new State("a full object", State::crowded);

    final String name;
    private final Supplier<LeftStates> maker;
    /** What later calls show of an object to which nothing was done. */
    private List<String> untouched = null;

    State(String name, Supplier<LeftStates> maker) {
        this.name = name;
        this.maker = maker;
    }

    LeftStates made() {
        return maker.get();
    }

    /** The first row that shows that a call changed something; null where there is none. */
    String changedBy(ToLongFunction<LeftStates> call) {
        if (untouched == null) {
            untouched = Later.of(made());
        }
        LeftStates x = made();
        call.applyAsLong(x);
        List<String> rows = Later.of(x);
        for (int i = 0; i < Math.max(rows.size(), untouched.size()); i++) {
            String row = i < rows.size() ? rows.get(i) : "nothing";
            String due = i < untouched.size() ? untouched.get(i) : "nothing";
            if (!row.equals(due)) {
                return row + " (without it: " + due + ")";
            }
        }
        return null;
    }

    /** Six acts, two rules, two steps, four letters that are no text yet. */
    private static LeftStates middle() {
        LeftStates x = new LeftStates();
        x.sector(2, 7);
        x.sector(7, 40);
        Help.rule(x, "a<50|b=0");
        Help.rule(x, "c=7");
        x.always(0, true);
        Help.step(x, "a>60:a=60");
        Help.step(x, "d=9:d=8");
        x.write(0, 1);
        x.whole(1, 2, 3, 9);
        x.barrier();
        x.write(4, 5);
        x.write(0, 3);
        x.tell(1);
        x.cost(0, 3);
        x.cost(1, 7);
        x.fewest(0);
        Help.page(x, "a=b:");
        return x;
    }

    /** As many acts, rules, steps, letters and fewest() as there may be; the letters are a rule. */
    private static LeftStates crowded() {
        LeftStates x = new LeftStates();
        for (int s = 0; s < 8; s++) {
            x.sector(s, 10 + s);
        }
        String[] rules = {"a=10|a<10", "b>0", "c<99", "!d=0", "(e=14)", "f=15|g=0"};
        String[] steps = {"a=1:a=2", "b=2:b=3", "c=3:c=4", "d=4:d=5", "e=5:e=6", "f=6:f=7", "g=7:g=8", "h=8:h=9"};
        for (String text : rules) {
            Help.rule(x, text);
        }
        for (String text : steps) {
            Help.step(x, text);
        }
        x.always(0, true);
        x.always(3, true);
        x.write(0, 1);
        x.barrier();
        x.whole(1, 2, 2, 3);
        x.tell(0);
        x.flush();
        for (int n = 0; n < 12; n++) {
            x.fewest(0);
        }
        x.write(3, 4);
        x.write(4, 5);
        x.tell(5);
        x.barrier();
        x.write(5, 6);
        x.whole(6, 7, 7, 8);
        x.write(0, 9);
        Help.page(x, "a=1|".repeat(14) + "b=22");
        return x;
    }
}
