/** A set of numbers from 0 to 255 that finds neighbours among its members. */
public final class FlatQueue {
    public static final int NONE = -1;

    private static final int SPAN = 256;

    // The only state: every answer is read off it, so no second record can fall out of step.
    private final boolean[] present = new boolean[SPAN];

    public FlatQueue() {
    }

    public boolean insert(int x) {
        if (!inSpan(x) || present[x]) {
            return false;
        }
        present[x] = true;
        return true;
    }

    public boolean delete(int x) {
        if (!member(x)) {
            return false;
        }
        present[x] = false;
        return true;
    }

    public boolean member(int x) {
        return inSpan(x) && present[x];
    }

    public int size() {
        return countBetween(0, SPAN - 1);
    }

    public int least() {
        return after(-1);
    }

    public int greatest() {
        return before(SPAN);
    }

    // x may be any int: comparing each number with x, rather than starting at x + 1, cannot overflow.
    public int after(int x) {
        for (int i = 0; i < SPAN; i++) {
            if (i > x && present[i]) {
                return i;
            }
        }
        return NONE;
    }

    public int before(int x) {
        for (int i = SPAN - 1; i >= 0; i--) {
            if (i < x && present[i]) {
                return i;
            }
        }
        return NONE;
    }

    // NONE is never a member, so taking from the empty set deletes nothing.
    public int takeLeast() {
        int taken = least();
        delete(taken);
        return taken;
    }

    public int takeGreatest() {
        int taken = greatest();
        delete(taken);
        return taken;
    }

    public int countBetween(int a, int b) {
        int count = 0;
        for (int i = 0; i < SPAN; i++) {
            if (a <= i && i <= b && present[i]) {
                count++;
            }
        }
        return count;
    }

    public int select(int k) {
        int lesser = 0;
        for (int i = 0; i < SPAN; i++) {
            if (present[i]) {
                if (lesser == k) {
                    return i;
                }
                lesser++;
            }
        }
        return NONE;
    }

    public int gapFrom(int x) {
        if (!inSpan(x)) {
            return NONE;
        }
        for (int i = x; i < SPAN; i++) {
            if (!present[i]) {
                return i;
            }
        }
        return NONE;
    }

    public int deleteBetween(int a, int b) {
        int count = 0;
        for (int i = 0; i < SPAN; i++) {
            if (a <= i && i <= b && present[i]) {
                present[i] = false;
                count++;
            }
        }
        return count;
    }

    public int nearest(int x) {
        if (member(x)) {
            return x;
        }
        int lower = before(x);
        int upper = after(x);
        if (lower == NONE) {
            return upper;
        }
        if (upper == NONE) {
            return lower;
        }
        // With a member on each side x lies between 0 and 255, so neither difference can overflow.
        return x - lower <= upper - x ? lower : upper;
    }

    private static boolean inSpan(int x) {
        return 0 <= x && x < SPAN;
    }
}
