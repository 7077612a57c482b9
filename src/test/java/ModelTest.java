import java.util.TreeSet;

/** Long fixed runs of mixed calls, each answer held against a TreeSet that gets the same calls. */
public final class ModelTest {
    private static final int NONE = FlatQueue.NONE;
    private static final int CALLS = 512;
    private static final int RUNS = 400;
    private static final int[] EDGES = {Integer.MIN_VALUE, Integer.MIN_VALUE + 1, -256, -1, 0, 1, 31, 32, 63, 64,
        127, 128, 254, 255, 256, 257, 512, Integer.MAX_VALUE - 1, Integer.MAX_VALUE};

    private final FlatQueue queue = new FlatQueue();
    private final TreeSet<Integer> model = new TreeSet<>();
    private final int run;
    private long seed;

    private ModelTest(int run) {
        this.run = run;
        this.seed = run;
    }

    public static void main(String[] args) {
        for (int run = 1; run <= RUNS; run++) {
            new ModelTest(run).play();
        }
        Check.finish();
    }

    private void play() {
        // Runs with many inserts reach a crowded set, the others stay sparse.
        int inserts = run % 4 * 20;
        for (int call = 0; call < CALLS; call++) {
            if (next(100) < inserts) {
                insert(call, next(256));
            } else {
                any(call, number(), number());
            }
        }
    }

    private void any(int call, int x, int y) {
        switch (next(15)) {
            case 0 -> insert(call, x);
            case 1 -> due(call, "delete(" + x + ")", queue.delete(x) ? 1 : 0, model.remove(x) ? 1 : 0);
            case 2 -> due(call, "member(" + x + ")", queue.member(x) ? 1 : 0, model.contains(x) ? 1 : 0);
            case 3 -> due(call, "size()", queue.size(), model.size());
            case 4 -> due(call, "least()", queue.least(), model.isEmpty() ? NONE : model.first());
            case 5 -> due(call, "greatest()", queue.greatest(), model.isEmpty() ? NONE : model.last());
            case 6 -> due(call, "after(" + x + ")", queue.after(x), orNone(model.higher(x)));
            case 7 -> due(call, "before(" + x + ")", queue.before(x), orNone(model.lower(x)));
            case 8 -> due(call, "takeLeast()", queue.takeLeast(), orNone(model.pollFirst()));
            case 9 -> due(call, "takeGreatest()", queue.takeGreatest(), orNone(model.pollLast()));
            case 10 -> due(call, "countBetween(" + x + ", " + y + ")", queue.countBetween(x, y), count(x, y));
            case 11 -> select(call, next(4) == 0 ? x : next(model.size() + 2) - 1);
            case 12 -> due(call, "gapFrom(" + x + ")", queue.gapFrom(x), gap(x));
            case 13 -> deleteBetween(call, x, next(4) == 0 ? y : x + next(12));
            default -> due(call, "nearest(" + x + ")", queue.nearest(x), nearest(x));
        }
    }

    private void insert(int call, int x) {
        boolean want = x >= 0 && x <= 255 && model.add(x);
        due(call, "insert(" + x + ")", queue.insert(x) ? 1 : 0, want ? 1 : 0);
    }

    private void select(int call, int k) {
        int want = NONE;
        for (int x : model) {
            if (model.headSet(x).size() == k) {
                want = x;
            }
        }
        due(call, "select(" + k + ")", queue.select(k), want);
    }

    private void deleteBetween(int call, int a, int b) {
        int want = count(a, b);
        model.removeIf(x -> a <= x && x <= b);
        due(call, "deleteBetween(" + a + ", " + b + ")", queue.deleteBetween(a, b), want);
    }

    private int count(int a, int b) {
        return a > b ? 0 : model.subSet(a, true, b, true).size();
    }

    private int gap(int x) {
        int gap = x;
        while (model.contains(gap)) {
            gap++;
        }
        return x >= 0 && gap <= 255 ? gap : NONE;
    }

    private int nearest(int x) {
        int best = NONE;
        for (int member : model) {
            if (best == NONE || Math.abs((long) member - x) < Math.abs((long) best - x)) {
                best = member;
            }
        }
        return best;
    }

    private static int orNone(Integer found) {
        return found == null ? NONE : found;
    }

    private void due(int call, String text, int got, int want) {
        Check.due("run " + run + ", call " + (call + 1) + ": " + text, got, want);
    }

    private int number() {
        return switch (next(8)) {
            case 0 -> EDGES[next(EDGES.length)];
            case 1 -> next(600) - 150;
            default -> next(256);
        };
    }

    /** The same numbers on every machine and every run, so that a failure can be told again. */
    private int next(int bound) {
        seed = seed * 6364136223846793005L + 1442695040888963407L;
        return (int) ((seed >>> 33) % bound);
    }
}
