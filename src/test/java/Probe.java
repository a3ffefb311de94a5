import java.util.ArrayList;
import java.util.Arrays;
import java.util.List;

/**
 * All that an object shows of itself, in groups of calls; each group is asked of an object of its own, since some of
 * these calls change what they ask for, and since an object is used for 512 calls at most.
 */
final class Probe {
    static final String TEXT = "THE TAPE", PAPER = "THE PAPER";

    /** One call. */
    record Ask(String name, long[] args) {
    }

    final String group;
    final List<Ask> asks = new ArrayList<>();

    private Probe(String group) {
        this.group = group;
    }

    private Probe ask(String name, long... args) {
        asks.add(new Ask(name, args));
        return this;
    }

    private Probe words() {
        for (int w = 0; w < 6; w++) for (int i = -1; i < 12; i++) ask("word", w, i);
        for (int what : new int[] {0, 1, 2, 5, 6}) ask("told", what);
        return this;
    }

    private Probe sum() {
        for (int i = 0; i <= 12; i++) for (int j = 0; j <= 12; j++) ask("number", i, j);
        return this;
    }

    private Probe boards() {
        for (int b = 0; b < 6; b++) {
            ask("of", b, 0);
            for (int i = 0; i < 6; i++) ask("row", b, i);
        }
        return this;
    }

    private Probe weights() {
        for (int i = 0; i < 6; i++) for (int j = 0; j < 6; j++) ask("weight", i, j, 0);
        return this;
    }

    private Probe seen() {
        ask("told", 5);
        for (int n = 1; n <= 4; n++) ask("fits", n, 0).ask("fits", n, 1);
        return this;
    }

    private Probe undone(int often) {
        for (int t = 0; t < often; t++) ask("undo");
        return boards().weights();
    }

    private Probe text() {
        ask("told", 3).ask("read", 5);
        for (int i = -1; i < 12; i++) ask("word", 5, i);
        return this;
    }

    private Probe paper() {
        ask("told", 4);
        for (int i = 0; i <= 12; i++) ask("paper", i);
        return this;
    }

    /** Its items, and its sort by what can be shifted to it. */
    private Probe tape(int tape) {
        for (int i = 0; i <= 60; i++) ask("peek", tape, i);
        int other = tape == 0 ? 1 : 0;
        for (int sort = 0; sort <= 4; sort++) ask("tape", other, sort, 0).ask("shift", tape, 0, other, 0, 0);
        return this;
    }

    static List<Probe> all() {
        List<Probe> all = new ArrayList<>(Arrays.asList(
            new Probe("WORDS").words(), new Probe("THE SUM").sum(), new Probe("BOARDS").boards(),
            new Probe("WEIGHTS").weights(), new Probe("SEEN").seen(), new Probe(TEXT).text(),
            new Probe(PAPER).paper(), new Probe("THE IMAGE's WORDS").ask("restore").words(),
            new Probe("THE IMAGE's SUM").ask("restore").sum(),
            new Probe("THE IMAGE's BOARDS").ask("restore").boards(),
            new Probe("THE IMAGE's WEIGHTS").ask("restore").weights(),
            new Probe("THE IMAGE's SEEN").ask("restore").seen()));
        for (int t = 1; t <= 11; t++) all.add(new Probe("CHANGES, " + t + " UNDONE").undone(t));
        for (int t = 0; t < 6; t++) all.add(new Probe("TAPE " + t).tape(t));
        return all;
    }
}
