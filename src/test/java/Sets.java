/** The sets that tests start from, the wrong numbers they try, and what a set must hold. */
final class Sets {
    static final int MIN = Integer.MIN_VALUE;
    static final int MAX = Integer.MAX_VALUE;
    static final int NONE = FlatQueue.NONE;

    /** Some of these, and of those too large, look like 0, 10 or 255 when cut to 8 or 16 bits. */
    static final int[] TOO_SMALL = {MIN, MIN + 1, MIN + 10, -65536, -65526, -256, -246, -10, -2, -1};
    static final int[] TOO_LARGE = {256, 257, 266, 511, 512, 65536, 65546, MAX - 245, MAX - 1, MAX};

    private Sets() {
    }

    static FlatQueue setOf(int... members) {
        FlatQueue queue = new FlatQueue();
        for (int x : members) {
            Check.due("insert(" + x + ") into a new set", queue.insert(x), true);
        }
        return queue;
    }

    /** Takes 256 calls, so that as many are left. */
    static FlatQueue fullSet() {
        FlatQueue queue = new FlatQueue();
        for (int x = 0; x <= 255; x++) {
            Check.due("insert(" + x + ") while filling", queue.insert(x), true);
        }
        return queue;
    }

    /** Empty as a new set is, but by every way of taking a member out. */
    static FlatQueue emptiedSet() {
        FlatQueue queue = setOf(0, 10, 11, 12, 255);
        Check.due("takeLeast() while emptying", queue.takeLeast(), 0);
        Check.due("takeGreatest() while emptying", queue.takeGreatest(), 255);
        Check.due("delete(11) while emptying", queue.delete(11), true);
        Check.due("deleteBetween(10, 12) while emptying", queue.deleteBetween(10, 12), 2);
        return queue;
    }

    /** Takes 259 calls. */
    static void dueMembers(String what, FlatQueue queue, int... members) {
        boolean[] due = new boolean[256];
        int least = NONE;
        int greatest = NONE;
        for (int x : members) {
            due[x] = true;
            least = least == NONE ? x : Math.min(least, x);
            greatest = Math.max(greatest, x);
        }
        for (int x = 0; x <= 255; x++) {
            Check.due(what + ": member(" + x + ")", queue.member(x), due[x]);
        }
        Check.due(what + ": size()", queue.size(), members.length);
        Check.due(what + ": least()", queue.least(), least);
        Check.due(what + ": greatest()", queue.greatest(), greatest);
    }

    /** For a full set has no calls left to ask after each member. */
    static void dueFull(String what, FlatQueue queue) {
        Check.due(what + ": size()", queue.size(), 256);
        Check.due(what + ": gapFrom(0)", queue.gapFrom(0), NONE);
        Check.due(what + ": least()", queue.least(), 0);
        Check.due(what + ": greatest()", queue.greatest(), 255);
    }
}
