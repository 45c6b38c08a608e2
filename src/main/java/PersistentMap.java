/**
 * An ordered map from the keys 0 .. 31 to ints, all of whose versions stay usable.
 *
 * <p>Each version is held whole, as a row of 32 cells. At 40 versions that is small, and no
 * question then has to walk from a version to the ones it was made from to find a value.
 */
public final class PersistentMap {
    private static final int KEYS = 32;
    private static final int MOST_VERSIONS = 40;
    private static final int CELLS = MOST_VERSIONS * KEYS;
    private static final int MOST_IN_PLAN = 8;

    private static final int BAD_VERSION = -1;
    private static final int BAD_KEYS = -2;
    private static final int FULL = -3;
    private static final int NONE = -2;

    private final boolean[] there = new boolean[CELLS];
    // An absent key's cell always holds 0: get, sum and the comparing of cells rely on it.
    private final int[] values = new int[CELLS];
    // A parent's number is always less than its child's: the walks towards version 0 rely on it.
    private final int[] parents = new int[MOST_VERSIONS];
    private int count;

    public PersistentMap() {
        count = 1;
    }

    public int put(int v, int key, int value) {
        if (!isVersion(v)) {
            return BAD_VERSION;
        }
        if (!isKey(key)) {
            return BAD_KEYS;
        }
        if (isFull()) {
            return FULL;
        }
        int made = makeVersion(v);
        setKey(made, key, value);
        return made;
    }

    public int remove(int v, int key) {
        if (!isVersion(v)) {
            return BAD_VERSION;
        }
        if (!isKey(key)) {
            return BAD_KEYS;
        }
        if (isFull()) {
            return FULL;
        }
        int made = makeVersion(v);
        clearKey(made, key);
        return made;
    }

    public int fill(int v, int plan, int value, int step) {
        if (!isVersion(v)) {
            return BAD_VERSION;
        }
        if (!isPlan(plan)) {
            return BAD_KEYS;
        }
        if (isFull()) {
            return FULL;
        }
        int made = makeVersion(v);
        int first = planFirst(plan);
        int length = planCount(plan);
        for (int i = 0; i < length; i++) {
            setKey(made, first + i, value + i * step);
        }
        return made;
    }

    public int graft(int v, int w, int plan) {
        if (!isVersion(v) || !isVersion(w)) {
            return BAD_VERSION;
        }
        if (!isPlan(plan)) {
            return BAD_KEYS;
        }
        if (isFull()) {
            return FULL;
        }
        int made = makeVersion(v);
        int first = planFirst(plan);
        int length = planCount(plan);
        for (int key = first; key < first + length; key++) {
            copyKey(w, key, made, key);
        }
        return made;
    }

    public int exchange(int v, int a, int b) {
        if (!isVersion(v)) {
            return BAD_VERSION;
        }
        if (!isKey(a) || !isKey(b)) {
            return BAD_KEYS;
        }
        if (isFull()) {
            return FULL;
        }
        int made = makeVersion(v);
        // The parent still has both keys as they were, so nothing has to be set aside.
        copyKey(v, a, made, b);
        copyKey(v, b, made, a);
        return made;
    }

    public int versions() {
        return count;
    }

    public int parent(int v) {
        if (!isVersion(v)) {
            return BAD_VERSION;
        }
        return v == 0 ? NONE : parents[v];
    }

    public int ancestor(int v, int w) {
        if (!isVersion(v) || !isVersion(w)) {
            return BAD_VERSION;
        }
        return isAncestor(v, w) ? 1 : 0;
    }

    public int meet(int v, int w) {
        if (!isVersion(v) || !isVersion(w)) {
            return BAD_VERSION;
        }
        for (int u = v; u > 0; u--) {
            if (isAncestor(u, v) && isAncestor(u, w)) {
                return u;
            }
        }
        return 0;
    }

    public int family(int v) {
        if (!isVersion(v)) {
            return BAD_VERSION;
        }
        int members = 0;
        for (int u = v; u < count; u++) {
            if (isAncestor(v, u)) {
                members++;
            }
        }
        return members;
    }

    public int has(int v, int key) {
        if (!isVersion(v)) {
            return BAD_VERSION;
        }
        if (!isKey(key)) {
            return BAD_KEYS;
        }
        return there[cell(v, key)] ? 1 : 0;
    }

    public int get(int v, int key) {
        if (!isVersion(v) || !isKey(key)) {
            return 0;
        }
        return values[cell(v, key)];
    }

    public int size(int v) {
        if (!isVersion(v)) {
            return BAD_VERSION;
        }
        int found = 0;
        for (int key = 0; key < KEYS; key++) {
            if (there[cell(v, key)]) {
                found++;
            }
        }
        return found;
    }

    public int next(int v, int from) {
        if (!isVersion(v)) {
            return BAD_VERSION;
        }
        for (int key = 0; key < KEYS; key++) {
            if (key >= from && there[cell(v, key)]) {
                return key;
            }
        }
        return NONE;
    }

    public int previous(int v, int to) {
        if (!isVersion(v)) {
            return BAD_VERSION;
        }
        for (int key = KEYS - 1; key >= 0; key--) {
            if (key <= to && there[cell(v, key)]) {
                return key;
            }
        }
        return NONE;
    }

    public int select(int v, int k) {
        if (!isVersion(v)) {
            return BAD_VERSION;
        }
        int passed = 0;
        for (int key = 0; key < KEYS; key++) {
            if (there[cell(v, key)]) {
                if (passed == k) {
                    return key;
                }
                passed++;
            }
        }
        return NONE;
    }

    public int sum(int v, int first, int last) {
        if (!isVersion(v)) {
            return 0;
        }
        int total = 0;
        for (int key = 0; key < KEYS; key++) {
            if (key >= first && key <= last) {
                total += values[cell(v, key)];
            }
        }
        return total;
    }

    public int differing(int v, int w) {
        if (!isVersion(v) || !isVersion(w)) {
            return BAD_VERSION;
        }
        int found = 0;
        for (int key = 0; key < KEYS; key++) {
            if (!agree(v, w, key)) {
                found++;
            }
        }
        return found;
    }

    public int spread(int key) {
        if (!isKey(key)) {
            return -1;
        }
        int found = 0;
        for (int v = 0; v < count; v++) {
            if (there[cell(v, key)]) {
                found++;
            }
        }
        return found;
    }

    public int changes(int key) {
        if (!isKey(key)) {
            return -1;
        }
        int found = 0;
        for (int v = 1; v < count; v++) {
            if (!agree(v, parents[v], key)) {
                found++;
            }
        }
        return found;
    }

    private boolean isVersion(int v) {
        return v >= 0 && v < count;
    }

    private static boolean isKey(int key) {
        return key >= 0 && key < KEYS;
    }

    private boolean isFull() {
        return count >= MOST_VERSIONS;
    }

    private static boolean isPlan(int plan) {
        int first = planFirst(plan);
        int length = planCount(plan);
        // The shift keeps first far from the greatest int, so the addition can't wrap.
        return first >= 0 && length >= 1 && length <= MOST_IN_PLAN && first + length <= KEYS;
    }

    // A shift, not a division: a negative plan must give a negative first.
    private static int planFirst(int plan) {
        return plan >> 4;
    }

    private static int planCount(int plan) {
        return plan & 15;
    }

    private static int cell(int v, int key) {
        return v * KEYS + key;
    }

    private void setKey(int v, int key, int value) {
        int at = cell(v, key);
        there[at] = true;
        values[at] = value;
    }

    private void clearKey(int v, int key) {
        int at = cell(v, key);
        there[at] = false;
        values[at] = 0;
    }

    private void copyKey(int fromVersion, int fromKey, int toVersion, int toKey) {
        int from = cell(fromVersion, fromKey);
        int to = cell(toVersion, toKey);
        there[to] = there[from];
        values[to] = values[from];
    }

    private int makeVersion(int v) {
        int made = count;
        for (int key = 0; key < KEYS; key++) {
            copyKey(v, key, made, key);
        }
        parents[made] = v;
        count = made + 1;
        return made;
    }

    private boolean agree(int v, int w, int key) {
        int one = cell(v, key);
        int other = cell(w, key);
        return there[one] == there[other] && values[one] == values[other];
    }

    private boolean isAncestor(int v, int w) {
        int reached = w;
        // Counting down instead of following parents alone gives the loop an end in plain sight.
        for (int u = w; u > v; u--) {
            if (u == reached) {
                reached = parents[u];
            }
        }
        return reached == v;
    }
}
