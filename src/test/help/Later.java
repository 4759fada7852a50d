import java.util.ArrayList;
import java.util.List;

/**
 * What later calls show of an object: a row for each call, first those that only look, then those that change it. They
 * are so few that an object with all that led to its state stays below its 512 calls.
 */
final class Later {
    private final LeftStates x;
    private final List<String> rows = new ArrayList<>();

    private Later(LeftStates x) {
        this.x = x;
    }

    static List<String> of(LeftStates x) {
        Later later = new Later(x);
        later.told();
        later.texts();
        later.found();
        later.comesTo();
        later.putBetween();
        later.readPage();
        later.takeAway();
        return later.rows;
    }

    private void row(String call, long answer) {
        rows.add(call + " = " + answer);
    }

    private void told() {
        row("digest()", x.digest());
        for (int what = 0; what <= 6; what++) {
            row("count(" + what + ")", x.count(what));
        }
        int n = x.count(0);
        for (int i = 0; i < n; i++) {
            for (int what = 0; what <= 4; what++) {
                row("act(" + i + ", " + what + ")", x.act(i, what));
            }
        }
        row("end()", x.end());
    }

    private void texts() {
        row("good(0)", x.good(0));
        row("good(1)", x.good(1));
        for (long plate : new long[] {0L, 1413121110090807L, 201000009020105L}) {
            for (int r = 0; r < 6; r++) {
                row("holds(" + r + ", " + plate + ")", x.holds(r, plate));
            }
            row("heal(" + plate + ")", x.heal(plate));
            row("steady(" + plate + ")", x.steady(plate));
        }
        for (int j = 0; j <= 8; j++) {
            row("cut(.., " + j + ")", x.cut(201000009020161L, j));
        }
    }

    private void found() {
        int n = x.count(0);
        for (int k = 0; k <= n; k++) {
            row("found(" + k + ")", x.found(k));
            row("broken(" + k + ")", x.broken(k));
            row("plate(" + k + ", 1)", x.plate(k, 1));
        }
        for (int s = 0; s < 8; s++) {
            row("bounds(" + s + ", n, 0)", x.bounds(s, n, 0));
            row("bounds(" + s + ", n, 1)", x.bounds(s, n, 1));
        }
        for (int r = 0; r < 6; r++) {
            row("kept(" + r + ", n, 0)", x.kept(r, n, 0));
            row("kept(" + r + ", n, 1)", x.kept(r, n, 1));
        }
    }

    private void comesTo() {
        row("safe()", x.safe());
        for (int what = 0; what <= 3; what++) {
            row("shortest(" + what + ")", x.shortest(what));
        }
        row("needless()", x.needless());
        row("order(0, 3, 4)", x.order(0, 3, 4));
        row("order(0, 11, 9)", x.order(0, 11, 9));
    }

    private void putBetween() {
        for (int what : new int[] {0, 1, 10, 11, 12, 13, 14, 15, 16}) {
            row("fewest(" + what + ")", x.fewest(what));
        }
        row("count(6)", x.count(6));
        row("cost(0, 2)", x.cost(0, 2));
        row("cost(1, 2)", x.cost(1, 2));
        for (int n = 0; n < 4; n++) {
            row("fewest(0)", x.fewest(0));
        }
        row("count(6)", x.count(6));
    }

    private void readPage() {
        row("rule()", x.rule());
        row("step()", x.step());
        row("letters(98)", x.letters(98L));
        row("digest()", x.digest());
        row("blank()", x.blank());
        row("rule b=1", Help.rule(x, "b=1"));
        row("step b=1:b=2", Help.step(x, "b=1:b=2"));
        row("heal(100)", x.heal(100L));
        for (int r = 0; r < 6; r++) {
            row("always(" + r + ", false)", x.always(r, false));
        }
        row("bare()", x.bare());
    }

    private void takeAway() {
        for (int s = 0; s < 8; s++) {
            row("sector(" + s + ", 1)", x.sector(s, 1));
        }
        row("swap(0, 1)", x.swap(0, 1));
        for (int n = 0; n < 13; n++) {
            row("undo()", x.undo());
        }
        row("write(1, 2)", x.write(1, 2));
        row("digest()", x.digest());
    }
}
