import java.util.Map;
import java.util.TreeMap;

/** Long mixed runs, drawn with fixed seeds, in which each answer is compared with the model's. */
public final class ModelTest {
    private static final int RUNS = 6000;
    private static final int CALLS = 512;
    private static final String[] NAMES = {"begin", "write", "erase", "read", "peek", "countRange", "commit",
        "abort", "latest", "has", "at", "size", "changed"};
    // How often each call is drawn: the first row mixes all, the second has commits follow each other
    // fast, the third has transactions live long, the fourth asks much of the states.
    private static final int[][] WEIGHTS = {
        {8, 8, 4, 4, 4, 2, 5, 1, 1, 2, 2, 1, 2},
        {8, 4, 3, 1, 2, 0, 8, 1, 1, 2, 2, 1, 2},
        {8, 24, 12, 4, 8, 1, 3, 1, 1, 2, 2, 1, 2},
        {8, 8, 4, 0, 0, 0, 7, 1, 1, 8, 8, 6, 10},
    };
    private static final int[] ODD = {-1, 4, 32, 33, Integer.MIN_VALUE, Integer.MAX_VALUE};

    private final Draws draws;
    private final int[] weights;
    private final int keyRange;
    private final boolean oddArguments;
    private final Map<String, Integer> seen;

    private ModelTest(int seed, Map<String, Integer> seen) {
        this.draws = new Draws(seed);
        this.weights = WEIGHTS[seed % WEIGHTS.length];
        this.keyRange = seed / 4 % 3 == 0 ? 4 : seed / 4 % 3 == 1 ? 12 : 32;
        this.oddArguments = seed / 12 % 2 == 0;
        this.seen = seen;
    }

    public static void main(String[] args) {
        Map<String, Integer> seen = new TreeMap<>();
        for (int seed = 0; seed < RUNS; seed++) {
            new ModelTest(seed, seen).run(seed);
        }
        mustHaveSeen(seen);
        Checks.finish();
    }

    private int draw() {
        int sum = 0;
        for (int weight : weights) {
            sum += weight;
        }
        int rest = draws.below(sum);
        int call = 0;
        while (rest >= weights[call]) {
            rest -= weights[call];
            call++;
        }
        return call;
    }

    private boolean odd() {
        return oddArguments && draws.below(40) == 0;
    }

    private int transaction() {
        return odd() ? ODD[draws.below(ODD.length)] : draws.below(4);
    }

    private int key() {
        if (odd()) {
            return ODD[draws.below(ODD.length)];
        }
        // The small ranges lie at the upper end, where the sign bit of a set of keys is.
        return 31 - draws.below(keyRange);
    }

    private int value() {
        int kind = draws.below(4);
        return kind == 0 ? 0 : kind == 1 ? draws.any() : draws.below(9) - 4;
    }

    private int state(int latest) {
        return odd() ? ODD[draws.below(ODD.length)] : latest + 1 - draws.below(9);
    }

    private void run(int seed) {
        MeldLog x = new MeldLog();
        Model model = new Model();
        for (int i = 0; i < CALLS; i++) {
            int call = draw();
            int a = call >= 9 ? state(model.latest()) : transaction();
            int b = call == 12 ? state(model.latest()) : key();
            int c = call == 5 ? key() : value();
            int due = ask(model, call, a, b, c);
            String what = "seed " + seed + " call " + i + ": " + NAMES[call] + " " + a + " " + b + " " + c;
            Checks.due(what, ask(x, call, a, b, c), due);
            seen.merge(NAMES[call] + (due < 0 ? " " + due : ""), 1, Integer::sum);
        }
    }

    private static int ask(MeldLog x, int call, int a, int b, int c) {
        switch (call) {
            case 0: return x.begin(a);
            case 1: return x.write(a, b, c);
            case 2: return x.erase(a, b);
            case 3: return x.read(a, b);
            case 4: return x.peek(a, b);
            case 5: return x.countRange(a, b, c);
            case 6: return x.commit(a);
            case 7: return x.abort(a);
            case 8: return x.latest();
            case 9: return x.has(a, b) ? 1 : 0;
            case 10: return x.at(a, b);
            case 11: return x.size(a);
            default: return x.changed(a, b);
        }
    }

    private static int ask(Model x, int call, int a, int b, int c) {
        switch (call) {
            case 0: return x.begin(a);
            case 1: return x.write(a, b, c);
            case 2: return x.erase(a, b);
            case 3: return x.read(a, b);
            case 4: return x.peek(a, b);
            case 5: return x.countRange(a, b, c);
            case 6: return x.commit(a);
            case 7: return x.abort(a);
            case 8: return x.latest();
            case 9: return x.has(a, b);
            case 10: return x.at(a, b);
            case 11: return x.size(a);
            default: return x.changed(a, b);
        }
    }

    /** A run that never meets a kind of answer tests nothing of it. */
    private static void mustHaveSeen(Map<String, Integer> seen) {
        String[] kinds = {"begin", "begin -1", "begin -2", "write", "write -1", "write -3", "write -4",
            "erase", "erase -1", "erase -3", "erase -4", "read", "read -1", "read -3", "peek",
            "countRange", "countRange -1", "countRange -3", "commit", "commit -1", "commit -3", "commit -5",
            "abort", "abort -1", "abort -3", "latest", "has", "at", "size", "size -1", "size -6",
            "changed", "changed -1", "changed -6"};
        for (String kind : kinds) {
            Checks.holds("'" + kind + "' is met often", seen.getOrDefault(kind, 0) >= 100);
        }
    }
}
