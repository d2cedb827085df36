import java.util.ArrayList;
import java.util.List;

/**
 * What calls can tell of an object, row by row: two objects with the same rows stand in the same state.
 * Looking spends the object, as it goes back to both images and reads the text at the end; it takes some
 * 300 calls at most, so that these and the calls ahead stay within the 512 that an object is used for.
 */
final class Seen {
    private static final int[] SOME_SLOTS = {0, 1, 2, 3, 15};
    private static final int[] SOME_DAYS = {0, 9, 10, 20, 21, 999};

    private final CarriedBack x;
    private final List<String> rows = new ArrayList<>();

    private Seen(CarriedBack x) {
        this.x = x;
    }

    static List<String> of(CarriedBack x) {
        Seen seen = new Seen(x);
        seen.row("breach()", x.breach());
        seen.lookAtCounts();
        seen.lookAtTrunk();
        seen.lookAtLines();
        seen.lookAtReleases();
        seen.lookAtPolicy();
        seen.lookAtImages();
        seen.lookAtText();
        return seen.rows;
    }

    /** The first row in which two differ; an empty text if they do not. */
    static String difference(List<String> some, List<String> others) {
        for (int k = 0; k < Math.max(some.size(), others.size()); k++) {
            String one = k < some.size() ? some.get(k) : "nothing";
            String other = k < others.size() ? others.get(k) : "nothing";
            if (!one.equals(other)) {
                return one + ", due is " + other;
            }
        }
        return "";
    }

    private void row(String call, int answer) {
        rows.add(call + " = " + answer);
    }

    private void lookAtCounts() {
        for (int what = 0; what <= 4; what++) {
            row("count(" + what + ")", x.count(what));
        }
    }

    private void lookAtTrunk() {
        int changes = Math.min(x.count(0), 6);
        for (int c = 0; c < changes; c++) {
            for (int what = 0; what <= 4; what++) {
                row("change(" + c + ", " + what + ")", x.change(c, what));
            }
            for (int s = 0; s < 3; s++) {
                row("sets(" + c + ", " + s + ")", x.sets(c, s));
                row("ahead(" + (c + 1) + ", " + s + ")", x.ahead(c + 1, s));
            }
        }
        for (int f = 0; f < Math.min(x.count(1), 3); f++) {
            for (int what = 0; what <= 2; what++) {
                row("fault(" + f + ", " + what + ")", x.fault(f, what));
            }
        }
    }

    private void lookAtLines() {
        for (int l = 0; l < x.count(2); l++) {
            for (int what = 0; what <= 4; what++) {
                row("line(" + l + ", " + what + ")", x.line(l, what));
            }
            for (int s : SOME_SLOTS) {
                row("value(" + l + ", " + s + ")", x.value(l, s));
            }
        }
    }

    private void lookAtReleases() {
        int made = x.count(3);
        for (int r = Math.max(0, made - 5); r < made; r++) {
            for (int what = 0; what <= 3; what++) {
                row("released(" + r + ", " + what + ")", x.released(r, what));
            }
            row("differs(0, " + r + ")", x.differs(0, r));
        }
    }

    private void lookAtPolicy() {
        for (int l = 0; l < Math.min(x.count(2), 3); l++) {
            for (int c = 0; c < Math.min(x.count(0), 6); c++) {
                row("lets(" + l + ", " + c + ", 5)", x.lets(l, c, 5));
            }
        }
        for (int day : SOME_DAYS) {
            row("lets(2, 4, " + day + ")", x.lets(2, 4, day));
        }
    }

    private void lookAtImages() {
        for (int i = 0; i <= 1; i++) {
            row("goBack(" + i + ")", x.goBack(i));
            for (int l = 0; l < x.count(2); l++) {
                row("line(" + l + ", 1) then", x.line(l, 1));
                row("line(" + l + ", 4) then", x.line(l, 4));
                row("value(" + l + ", 0) then", x.value(l, 0));
            }
            int made = x.count(3);
            row("count(3) then", made);
            row("released(" + (made - 1) + ", 2) then", x.released(made - 1, 2));
        }
    }

    private void lookAtText() {
        row("trunk() of the text", x.trunk());
        row("breach() of the text", x.breach());
        row("change(0, 2) of the text", x.change(0, 2));
    }
}
