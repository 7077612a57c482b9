import java.util.stream.IntStream;

/** At least one method for each promise of the document; no object is used for more than its 512 calls. */
public final class PromiseTest {
    private static final int MIN = Sets.MIN;
    private static final int MAX = Sets.MAX;
    private static final int NONE = FlatQueue.NONE;
    private static final int[] OUTSIDE =
        IntStream.concat(IntStream.of(Sets.TOO_SMALL), IntStream.of(Sets.TOO_LARGE)).toArray();

    public static void main(String[] args) {
        Check.runTestsOf(PromiseTest.class);
        Check.finish();
    }

    private static void promise1NewObject() {
        Sets.dueMembers("1: new", new FlatQueue());
        FlatQueue first = Sets.setOf(3, 4);
        Sets.dueMembers("1: new beside another", new FlatQueue());
        Sets.dueMembers("1: another beside new", first, 3, 4);
    }

    private static void promise2Insert() {
        FlatQueue queue = new FlatQueue();
        int[] order = {255, 0, 10, 128, 127, 63, 64};
        for (int x : order) {
            Check.due("2: insert(" + x + ")", queue.insert(x), true);
            Check.due("2: insert(" + x + ") again", queue.insert(x), false);
        }
        for (int x : OUTSIDE) {
            Check.due("2: insert(" + x + ")", queue.insert(x), false);
        }
        Sets.dueMembers("2: after the inserts", queue, order);

        FlatQueue full = Sets.fullSet();
        for (int x = 0; x <= 255; x += 5) {
            Check.due("2: insert(" + x + ") into the full set", full.insert(x), false);
        }
        Check.due("2: size() of the full set", full.size(), 256);

        FlatQueue again = Sets.setOf(9);
        again.delete(9);
        Check.due("2: insert(9) after delete(9)", again.insert(9), true);
        Check.due("2: member(9) after that", again.member(9), true);
    }

    private static void promise3Delete() {
        FlatQueue queue = Sets.setOf(0, 10, 11, 12, 255);
        int[] order = {11, 0, 255};
        for (int x : order) {
            Check.due("3: delete(" + x + ")", queue.delete(x), true);
            Check.due("3: delete(" + x + ") again", queue.delete(x), false);
        }
        for (int x : OUTSIDE) {
            Check.due("3: delete(" + x + ")", queue.delete(x), false);
        }
        Check.due("3: delete(13)", queue.delete(13), false);
        Sets.dueMembers("3: after the deletes", queue, 10, 12);
        Check.due("3: delete(0) from the empty set", new FlatQueue().delete(0), false);
    }

    private static void promise4Member() {
        FlatQueue queue = Sets.setOf(0, 10, 255);
        for (int x = 0; x <= 255; x++) {
            Check.due("4: member(" + x + ")", queue.member(x), x == 0 || x == 10 || x == 255);
        }
        for (int x : OUTSIDE) {
            Check.due("4: member(" + x + ")", queue.member(x), false);
        }
        queue.delete(10);
        Check.due("4: member(10) after delete(10)", queue.member(10), false);

        FlatQueue full = Sets.fullSet();
        for (int x : OUTSIDE) {
            Check.due("4: member(" + x + ") of the full set", full.member(x), false);
        }
    }

    private static void promise5Size() {
        FlatQueue queue = new FlatQueue();
        Check.due("5: size() when new", queue.size(), 0);
        int[] refused = {-1, 256, 7};
        queue.insert(7);
        for (int x : refused) {
            queue.insert(x);
            Check.due("5: size() after insert(" + x + ")", queue.size(), 1);
        }
        queue.insert(0);
        queue.insert(255);
        Check.due("5: size() with three members", queue.size(), 3);
        queue.delete(8);
        Check.due("5: size() after a refused delete", queue.size(), 3);
        queue.delete(7);
        Check.due("5: size() after a delete", queue.size(), 2);
        queue.takeLeast();
        Check.due("5: size() after takeLeast", queue.size(), 1);
        queue.takeGreatest();
        Check.due("5: size() after takeGreatest", queue.size(), 0);
        queue.takeLeast();
        queue.takeGreatest();
        Check.due("5: size() after taking from the empty set", queue.size(), 0);

        FlatQueue full = Sets.fullSet();
        Check.due("5: size() of the full set", full.size(), 256);
        full.deleteBetween(10, 19);
        Check.due("5: size() after deleteBetween(10, 19)", full.size(), 246);
    }

    private static void promise6Least() {
        FlatQueue queue = new FlatQueue();
        Check.due("6: least() when new", queue.least(), NONE);
        int[] order = {255, 200, 210, 64, 63, 1, 0};
        int[] least = {255, 200, 200, 64, 63, 1, 0};
        for (int i = 0; i < order.length; i++) {
            queue.insert(order[i]);
            Check.due("6: least() after insert(" + order[i] + ")", queue.least(), least[i]);
        }
        queue.delete(0);
        Check.due("6: least() after delete(0)", queue.least(), 1);
        queue.deleteBetween(0, 254);
        Check.due("6: least() after deleteBetween(0, 254)", queue.least(), 255);
        queue.delete(255);
        Check.due("6: least() when emptied", queue.least(), NONE);
        Check.due("6: least() of the full set", Sets.fullSet().least(), 0);
    }

    private static void promise7Greatest() {
        FlatQueue queue = new FlatQueue();
        Check.due("7: greatest() when new", queue.greatest(), NONE);
        int[] order = {0, 50, 40, 63, 64, 254, 255};
        int[] greatest = {0, 50, 50, 63, 64, 254, 255};
        for (int i = 0; i < order.length; i++) {
            queue.insert(order[i]);
            Check.due("7: greatest() after insert(" + order[i] + ")", queue.greatest(), greatest[i]);
        }
        queue.delete(255);
        Check.due("7: greatest() after delete(255)", queue.greatest(), 254);
        queue.deleteBetween(1, 255);
        Check.due("7: greatest() after deleteBetween(1, 255)", queue.greatest(), 0);
        queue.delete(0);
        Check.due("7: greatest() when emptied", queue.greatest(), NONE);
        Check.due("7: greatest() of the full set", Sets.fullSet().greatest(), 255);
    }

    private static void promise8After() {
        FlatQueue queue = Sets.setOf(0, 10, 11, 128, 255);
        for (int x = 0; x <= 255; x++) {
            int want = x < 10 ? 10 : x < 11 ? 11 : x < 128 ? 128 : x < 255 ? 255 : NONE;
            Check.due("8: after(" + x + ")", queue.after(x), want);
        }
        for (int x : OUTSIDE) {
            Check.due("8: after(" + x + ")", queue.after(x), x < 0 ? 0 : NONE);
            Check.due("8: after(" + x + ") in the empty set", new FlatQueue().after(x), NONE);
        }
        Check.due("8: after(0) in the empty set", new FlatQueue().after(0), NONE);

        FlatQueue full = Sets.fullSet();
        for (int x = 0; x <= 254; x++) {
            Check.due("8: after(" + x + ") in the full set", full.after(x), x + 1);
        }
        Check.due("8: after(255) in the full set", full.after(255), NONE);
    }

    private static void promise9Before() {
        FlatQueue queue = Sets.setOf(0, 10, 11, 128, 255);
        for (int x = 0; x <= 255; x++) {
            int want = x > 128 ? 128 : x > 11 ? 11 : x > 10 ? 10 : x > 0 ? 0 : NONE;
            Check.due("9: before(" + x + ")", queue.before(x), want);
        }
        for (int x : OUTSIDE) {
            Check.due("9: before(" + x + ")", queue.before(x), x < 0 ? NONE : 255);
            Check.due("9: before(" + x + ") in the empty set", new FlatQueue().before(x), NONE);
        }
        Check.due("9: before(255) in the empty set", new FlatQueue().before(255), NONE);

        FlatQueue full = Sets.fullSet();
        for (int x = 1; x <= 255; x++) {
            Check.due("9: before(" + x + ") in the full set", full.before(x), x - 1);
        }
        Check.due("9: before(0) in the full set", full.before(0), NONE);
    }

    private static void promise10TakeLeast() {
        FlatQueue queue = Sets.setOf(255, 64, 0, 63);
        int[] order = {0, 63, 64, 255};
        for (int x : order) {
            Check.due("10: takeLeast()", queue.takeLeast(), x);
            Check.due("10: member(" + x + ") after it", queue.member(x), false);
        }
        Check.due("10: takeLeast() when emptied", queue.takeLeast(), NONE);
        Sets.dueMembers("10: after the last", queue);

        FlatQueue one = Sets.setOf(5, 6, 7);
        one.takeLeast();
        Sets.dueMembers("10: after one", one, 6, 7);

        FlatQueue full = Sets.fullSet();
        for (int x = 0; x <= 254; x++) {
            Check.due("10: takeLeast() from full", full.takeLeast(), x);
        }
    }

    private static void promise11TakeGreatest() {
        FlatQueue queue = Sets.setOf(255, 64, 0, 63);
        int[] order = {255, 64, 63, 0};
        for (int x : order) {
            Check.due("11: takeGreatest()", queue.takeGreatest(), x);
            Check.due("11: member(" + x + ") after it", queue.member(x), false);
        }
        Check.due("11: takeGreatest() when emptied", queue.takeGreatest(), NONE);
        Sets.dueMembers("11: after the last", queue);

        FlatQueue one = Sets.setOf(5, 6, 7);
        one.takeGreatest();
        Sets.dueMembers("11: after one", one, 5, 6);

        FlatQueue full = Sets.fullSet();
        for (int x = 255; x >= 1; x--) {
            Check.due("11: takeGreatest() from full", full.takeGreatest(), x);
        }
    }

    private static void promise12CountBetween() {
        FlatQueue queue = Sets.setOf(0, 10, 11, 12, 255);
        int[][] rows = {
            {0, 255, 5}, {10, 12, 3}, {10, 10, 1}, {13, 13, 0}, {9, 11, 2}, {11, 254, 2}, {1, 254, 3},
            {0, 0, 1}, {255, 255, 1}, {12, 10, 0}, {255, 0, 0}, {11, 10, 0},
            {MIN, MAX, 5}, {MAX, MIN, 0}, {MIN, -1, 0}, {256, MAX, 0}, {MIN, 0, 1}, {255, MAX, 1},
            {-1, 10, 2}, {11, 256, 3}, {-246, -244, 0}, {266, 268, 0}, {MIN, MIN, 0}, {MAX, MAX, 0},
        };
        for (int[] row : rows) {
            Check.due("12: countBetween(" + row[0] + ", " + row[1] + ")", queue.countBetween(row[0], row[1]), row[2]);
        }
        Check.due("12: countBetween(0, 255) of the empty set", new FlatQueue().countBetween(0, 255), 0);
        Check.due("12: countBetween(0, 255) of the full set", Sets.fullSet().countBetween(0, 255), 256);
    }

    private static void promise13Select() {
        FlatQueue queue = Sets.setOf(255, 11, 0, 10);
        int[] order = {0, 10, 11, 255};
        for (int k = 0; k < order.length; k++) {
            Check.due("13: select(" + k + ")", queue.select(k), order[k]);
        }
        int[] wrong = {4, 5, 10, 255, 256, 260, 65536, -1, -2, -4, -256, MIN, MIN + 1, MAX};
        for (int k : wrong) {
            Check.due("13: select(" + k + ")", queue.select(k), NONE);
        }
        queue.delete(10);
        Check.due("13: select(1) after delete(10)", queue.select(1), 11);
        Check.due("13: select(3) after delete(10)", queue.select(3), NONE);
        Check.due("13: select(0) in the empty set", new FlatQueue().select(0), NONE);

        FlatQueue full = Sets.fullSet();
        for (int k = 0; k <= 254; k++) {
            Check.due("13: select(" + k + ") in the full set", full.select(k), k);
        }
        Check.due("13: select(255) in the full set", full.select(255), 255);
        Check.due("13: select(256) in the full set", Sets.fullSet().select(256), NONE);
    }

    private static void promise14GapFrom() {
        FlatQueue queue = Sets.setOf(0, 10, 11, 12, 14, 63, 64, 65, 253, 254, 255);
        int[][] rows = {{0, 1}, {1, 1}, {9, 9}, {10, 13}, {11, 13}, {12, 13}, {13, 13}, {14, 15}, {63, 66},
            {64, 66}, {252, 252}, {253, NONE}, {254, NONE}, {255, NONE}};
        for (int[] row : rows) {
            Check.due("14: gapFrom(" + row[0] + ")", queue.gapFrom(row[0]), row[1]);
        }
        for (int x : OUTSIDE) {
            Check.due("14: gapFrom(" + x + ")", queue.gapFrom(x), NONE);
            Check.due("14: gapFrom(" + x + ") in the empty set", new FlatQueue().gapFrom(x), NONE);
        }
        Check.due("14: gapFrom(0) in the empty set", new FlatQueue().gapFrom(0), 0);
        Check.due("14: gapFrom(255) in the empty set", new FlatQueue().gapFrom(255), 255);

        FlatQueue full = Sets.fullSet();
        Check.due("14: gapFrom(0) in the full set", full.gapFrom(0), NONE);
        Check.due("14: gapFrom(255) in the full set", full.gapFrom(255), NONE);
        full.delete(255);
        Check.due("14: gapFrom(0) with 255 alone missing", full.gapFrom(0), 255);
        full.delete(0);
        Check.due("14: gapFrom(0) with 0 missing too", full.gapFrom(0), 0);
        Check.due("14: gapFrom(1) with 0 missing too", full.gapFrom(1), 255);
    }

    private static void promise15DeleteBetween() {
        int[] all = {0, 10, 11, 12, 255};
        dueLeft(10, 12, 3, all, 0, 255);
        dueLeft(11, 11, 1, all, 0, 10, 12, 255);
        dueLeft(13, 254, 0, all, all);
        dueLeft(1, 10, 1, all, 0, 11, 12, 255);
        dueLeft(0, 0, 1, all, 10, 11, 12, 255);
        dueLeft(255, 255, 1, all, 0, 10, 11, 12);
        dueLeft(0, 255, 5, all);
        dueLeft(MIN, MAX, 5, all);
        dueLeft(-1, 11, 3, all, 12, 255);
        dueLeft(12, 256, 2, all, 0, 10, 11);
        dueLeft(MIN, -1, 0, all, all);
        dueLeft(256, MAX, 0, all, all);
        dueLeft(266, 268, 0, all, all);
        dueLeft(12, 10, 0, all, all);
        dueLeft(255, 0, 0, all, all);
        dueLeft(MAX, MIN, 0, all, all);
        dueLeft(0, 255, 0, new int[0]);

        FlatQueue full = Sets.fullSet();
        Check.due("15: deleteBetween(1, 254) of the full set", full.deleteBetween(1, 254), 254);
        Check.due("15: deleteBetween(1, 254) again", full.deleteBetween(1, 254), 0);
        Check.due("15: deleteBetween(0, 255) then", full.deleteBetween(0, 255), 2);
        Check.due("15: size() then", full.size(), 0);
    }

    private static void dueLeft(int a, int b, int want, int[] members, int... left) {
        String call = "15: deleteBetween(" + a + ", " + b + ")";
        FlatQueue queue = Sets.setOf(members);
        Check.due(call, queue.deleteBetween(a, b), want);
        Sets.dueMembers(call, queue, left);
    }

    private static void promise16Nearest() {
        FlatQueue queue = Sets.setOf(10, 14, 19, 200);
        int[][] rows = {{0, 10}, {9, 10}, {10, 10}, {11, 10}, {12, 10}, {13, 14}, {14, 14}, {16, 14}, {17, 19},
            {19, 19}, {20, 19}, {109, 19}, {110, 200}, {199, 200}, {200, 200}, {201, 200}, {255, 200}};
        for (int[] row : rows) {
            Check.due("16: nearest(" + row[0] + ")", queue.nearest(row[0]), row[1]);
        }
        for (int x : OUTSIDE) {
            Check.due("16: nearest(" + x + ")", queue.nearest(x), x < 0 ? 10 : 200);
            Check.due("16: nearest(" + x + ") in the empty set", new FlatQueue().nearest(x), NONE);
            Check.due("16: nearest(" + x + ") to 77 alone", Sets.setOf(77).nearest(x), 77);
            Check.due("16: nearest(" + x + ") to the ends", Sets.setOf(0, 255).nearest(x), x < 0 ? 0 : 255);
        }
        Check.due("16: nearest(0) in the empty set", new FlatQueue().nearest(0), NONE);
        Check.due("16: nearest(127) to the ends", Sets.setOf(0, 255).nearest(127), 0);
        Check.due("16: nearest(128) to the ends", Sets.setOf(0, 255).nearest(128), 255);
        Check.due("16: nearest(127) to 0 and 254", Sets.setOf(254, 0).nearest(127), 0);
        Check.due("16: nearest(0) to 255 alone", Sets.setOf(255).nearest(0), 255);
        Check.due("16: nearest(255) to 0 alone", Sets.setOf(0).nearest(255), 0);
    }

    private static void promise17RefusedCallsChangeNothing() {
        FlatQueue queue = Sets.setOf(0, 10, 255);
        for (int x : OUTSIDE) {
            queue.insert(x);
            queue.delete(x);
            queue.gapFrom(x);
        }
        queue.insert(0);
        queue.insert(10);
        queue.insert(255);
        queue.delete(1);
        queue.delete(254);
        queue.select(3);
        queue.select(-1);
        queue.deleteBetween(255, 0);
        queue.deleteBetween(10, 9);
        Sets.dueMembers("17: after refused calls", queue, 0, 10, 255);

        FlatQueue empty = new FlatQueue();
        empty.takeLeast();
        empty.takeGreatest();
        empty.delete(0);
        empty.delete(NONE);
        empty.deleteBetween(0, 255);
        Sets.dueMembers("17: after taking from the empty set", empty);

        FlatQueue full = Sets.fullSet();
        for (int x : OUTSIDE) {
            full.insert(x);
            full.delete(x);
        }
        full.insert(0);
        full.insert(255);
        Check.due("17: size() of the full set after refused calls", full.size(), 256);
        Check.due("17: gapFrom(0) of the full set after refused calls", full.gapFrom(0), NONE);
    }

    private static void promise17QuestionsChangeNothing() {
        int[] asked = {MIN, -1, 0, 5, 10, 11, 255, 256, MAX};
        FlatQueue queue = Sets.setOf(0, 10, 255);
        for (int x : asked) {
            queue.member(x);
            queue.after(x);
            queue.before(x);
            queue.countBetween(x, 255);
            queue.select(x);
            queue.gapFrom(x);
            queue.nearest(x);
        }
        queue.size();
        queue.least();
        queue.greatest();
        Sets.dueMembers("17: after questions", queue, 0, 10, 255);
    }
}
