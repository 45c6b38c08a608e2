/**
 * One method for each promise of the document: ordinary inputs, the edges that the document names,
 * and wrong inputs.
 */
public final class PersistentMapPromises {
    private static final int MIN = Integer.MIN_VALUE;
    private static final int MAX = Integer.MAX_VALUE;
    private static final int[] BAD_KEYS = {-1, 32, 33, MIN, MAX};
    private static final int[] BAD_PLANS = {
        0, 9, 15, 16, 25, 32, // count 0 or above 8
        408, 498, 504, 512, 513, // first + count above 32
        -1, -8, -15, -16, MIN, MIN + 1, MIN + 8, // first below 0
        MAX, MAX - 7, MAX - 14 // far too great a first
    };

    private static int wrong = 0;

    private static void due(int promise, String call, int got, int want) {
        if (got != want) {
            wrong++;
            System.out.println("promise " + promise + ": " + call + " answered " + got + ", due is " + want);
        }
    }

    public static void main(String[] args) {
        newObject();
        put();
        remove();
        fill();
        graft();
        exchange();
        versions();
        parent();
        ancestor();
        meet();
        family();
        has();
        get();
        size();
        next();
        previous();
        select();
        sum();
        differing();
        spread();
        changes();
        refusedCallsChangeNothing();
        questionsChangeNothing();
        System.out.println(wrong == 0 ? "all answers are as due" : wrong + " answers are not as due");
        if (wrong != 0) {
            System.exit(1);
        }
    }

    /** Versions 0 .. 39, version i made by putting key i % 32 into version i - 1. */
    private static PersistentMap full() {
        PersistentMap x = new PersistentMap();
        for (int i = 1; i < 40; i++) {
            due(2, "put while filling up", x.put(i - 1, i % 32, i), i);
        }
        return x;
    }

    /**
     * Versions 0 .. 6 with the parents -, 0, 1, 1, 2, 0, 4; version 6 has the keys 0, 3, 10, 31
     * with the values 5, -3, 100, 7.
     */
    private static PersistentMap tree() {
        PersistentMap x = new PersistentMap();
        x.put(0, 0, 5);
        x.put(1, 3, -3);
        x.put(1, 3, 4);
        x.put(2, 10, 100);
        x.put(0, 20, 0);
        x.put(4, 31, 7);
        return x;
    }

    private static void newObject() {
        PersistentMap used = full();
        PersistentMap x = new PersistentMap();
        due(1, "versions()", x.versions(), 1);
        due(1, "size(0)", x.size(0), 0);
        due(1, "size(1)", x.size(1), -1);
        due(1, "parent(0)", x.parent(0), -2);
        due(1, "family(0)", x.family(0), 1);
        due(1, "next(0, MIN)", x.next(0, MIN), -2);
        for (int key = 0; key < 32; key++) {
            due(1, "has(0, " + key + ")", x.has(0, key), 0);
            due(1, "spread(" + key + ")", x.spread(key), 0);
        }
        due(1, "put(0, 0, 1)", x.put(0, 0, 1), 1);
        due(1, "versions() of the other object", used.versions(), 40);
    }

    private static void put() {
        PersistentMap x = new PersistentMap();
        due(2, "put(0, 0, MIN)", x.put(0, 0, MIN), 1);
        due(2, "put(1, 31, MAX)", x.put(1, 31, MAX), 2);
        due(2, "put(2, 0, 0)", x.put(2, 0, 0), 3);
        due(2, "put(1, 0, MIN)", x.put(1, 0, MIN), 4);
        due(2, "put(0, 7, -1)", x.put(0, 7, -1), 5);
        due(2, "get(1, 0)", x.get(1, 0), MIN);
        due(2, "size(1)", x.size(1), 1);
        due(2, "get(2, 0)", x.get(2, 0), MIN);
        due(2, "get(2, 31)", x.get(2, 31), MAX);
        due(2, "has(3, 0)", x.has(3, 0), 1);
        due(2, "get(3, 0)", x.get(3, 0), 0);
        due(2, "get(3, 31)", x.get(3, 31), MAX);
        due(2, "differing(1, 4)", x.differing(1, 4), 0);
        due(2, "parent(4)", x.parent(4), 1);
        due(2, "size(5)", x.size(5), 1);
        due(2, "size(0)", x.size(0), 0);

        due(2, "put(-1, 0, 1)", x.put(-1, 0, 1), -1);
        due(2, "put(6, 0, 1)", x.put(6, 0, 1), -1);
        due(2, "put(MIN, 0, 1)", x.put(MIN, 0, 1), -1);
        due(2, "put(MAX, 32, 1)", x.put(MAX, 32, 1), -1);
        for (int key : BAD_KEYS) {
            due(2, "put(0, " + key + ", 1)", x.put(0, key, 1), -2);
        }
        PersistentMap y = full();
        due(2, "put(40, 0, 1) when full", y.put(40, 0, 1), -1);
        due(2, "put(0, 32, 1) when full", y.put(0, 32, 1), -2);
        due(2, "put(0, 0, 1) when full", y.put(0, 0, 1), -3);
        due(2, "put(39, 31, 1) when full", y.put(39, 31, 1), -3);
    }

    private static void remove() {
        PersistentMap x = tree();
        due(3, "remove(6, 0)", x.remove(6, 0), 7);
        due(3, "remove(7, 31)", x.remove(7, 31), 8);
        due(3, "remove(8, 31)", x.remove(8, 31), 9);
        due(3, "has(7, 0)", x.has(7, 0), 0);
        due(3, "get(7, 0)", x.get(7, 0), 0);
        due(3, "size(7)", x.size(7), 3);
        due(3, "sum(7, 0, 31)", x.sum(7, 0, 31), 104);
        due(3, "has(6, 0)", x.has(6, 0), 1);
        due(3, "get(6, 0)", x.get(6, 0), 5);
        due(3, "size(8)", x.size(8), 2);
        due(3, "size(9)", x.size(9), 2);
        due(3, "parent(9)", x.parent(9), 8);
        due(3, "remove(0, 0)", x.remove(0, 0), 10);
        due(3, "differing(0, 10)", x.differing(0, 10), 0);

        due(3, "remove(-1, 0)", x.remove(-1, 0), -1);
        due(3, "remove(11, 0)", x.remove(11, 0), -1);
        due(3, "remove(11, 32)", x.remove(11, 32), -1);
        for (int key : BAD_KEYS) {
            due(3, "remove(0, " + key + ")", x.remove(0, key), -2);
        }
        PersistentMap y = full();
        due(3, "remove(40, 0) when full", y.remove(40, 0), -1);
        due(3, "remove(39, -1) when full", y.remove(39, -1), -2);
        due(3, "remove(39, 1) when full", y.remove(39, 1), -3);
        due(3, "has(39, 1) when full", y.has(39, 1), 1);
    }

    private static void fill() {
        PersistentMap x = tree();
        due(4, "fill(6, 8, 10, -4)", x.fill(6, 8, 10, -4), 7);
        for (int key = 0; key < 8; key++) {
            due(4, "get(7, " + key + ")", x.get(7, key), 10 - 4 * key);
        }
        due(4, "has(7, 8)", x.has(7, 8), 0);
        due(4, "get(7, 10)", x.get(7, 10), 100);
        due(4, "size(7)", x.size(7), 10);
        due(4, "size(6)", x.size(6), 4);
        due(4, "get(6, 3)", x.get(6, 3), -3);
        due(4, "parent(7)", x.parent(7), 6);
        due(4, "fill(0, 392, MAX, 1)", x.fill(0, 392, MAX, 1), 8);
        due(4, "get(8, 24)", x.get(8, 24), MAX);
        due(4, "get(8, 25)", x.get(8, 25), MIN);
        due(4, "get(8, 31)", x.get(8, 31), MIN + 6);
        due(4, "has(8, 23)", x.has(8, 23), 0);
        due(4, "fill(0, 1, 0, MAX)", x.fill(0, 1, 0, MAX), 9);
        due(4, "size(9)", x.size(9), 1);
        due(4, "has(9, 0)", x.has(9, 0), 1);
        due(4, "fill(0, 83, 1, MAX)", x.fill(0, 83, 1, MAX), 10);
        due(4, "get(10, 5)", x.get(10, 5), 1);
        due(4, "get(10, 6)", x.get(10, 6), MIN);
        due(4, "get(10, 7)", x.get(10, 7), -1);
        due(4, "size(10)", x.size(10), 3);
        due(4, "fill(0, 497, 6, 9)", x.fill(0, 497, 6, 9), 11);
        due(4, "get(11, 31)", x.get(11, 31), 6);

        due(4, "fill(-1, 1, 1, 1)", x.fill(-1, 1, 1, 1), -1);
        due(4, "fill(12, 1, 1, 1)", x.fill(12, 1, 1, 1), -1);
        due(4, "fill(12, 0, 1, 1)", x.fill(12, 0, 1, 1), -1);
        for (int plan : BAD_PLANS) {
            due(4, "fill(0, " + plan + ", 1, 1)", x.fill(0, plan, 1, 1), -2);
        }
        PersistentMap y = full();
        due(4, "fill(40, 1, 1, 1) when full", y.fill(40, 1, 1, 1), -1);
        due(4, "fill(0, 0, 1, 1) when full", y.fill(0, 0, 1, 1), -2);
        due(4, "fill(0, 1, 1, 1) when full", y.fill(0, 1, 1, 1), -3);
    }

    private static void graft() {
        PersistentMap x = tree();
        due(5, "graft(5, 6, 52)", x.graft(5, 6, 52), 7);
        due(5, "get(7, 3)", x.get(7, 3), -3);
        due(5, "has(7, 0)", x.has(7, 0), 0);
        due(5, "has(7, 10)", x.has(7, 10), 0);
        due(5, "has(7, 20)", x.has(7, 20), 1);
        due(5, "size(7)", x.size(7), 2);
        due(5, "parent(7)", x.parent(7), 5);
        due(5, "graft(6, 0, 8)", x.graft(6, 0, 8), 8);
        due(5, "has(8, 0)", x.has(8, 0), 0);
        due(5, "get(8, 3)", x.get(8, 3), 0);
        due(5, "size(8)", x.size(8), 2);
        due(5, "sum(8, 0, 31)", x.sum(8, 0, 31), 107);
        due(5, "size(6)", x.size(6), 4);
        due(5, "graft(6, 6, 392)", x.graft(6, 6, 392), 9);
        due(5, "differing(6, 9)", x.differing(6, 9), 0);
        due(5, "graft(0, 6, 392)", x.graft(0, 6, 392), 10);
        due(5, "get(10, 31)", x.get(10, 31), 7);
        due(5, "size(10)", x.size(10), 1);
        due(5, "graft(1, 3, 49)", x.graft(1, 3, 49), 11);
        due(5, "differing(3, 11)", x.differing(3, 11), 0);
        due(5, "parent(11)", x.parent(11), 1);
        due(5, "graft(0, 6, 33)", x.graft(0, 6, 33), 12);
        due(5, "size(12), the key after the plan not grafted", x.size(12), 0);

        due(5, "graft(-1, 0, 1)", x.graft(-1, 0, 1), -1);
        due(5, "graft(0, -1, 1)", x.graft(0, -1, 1), -1);
        due(5, "graft(13, 0, 1)", x.graft(13, 0, 1), -1);
        due(5, "graft(0, 13, 1)", x.graft(0, 13, 1), -1);
        due(5, "graft(0, 13, 0)", x.graft(0, 13, 0), -1);
        for (int plan : BAD_PLANS) {
            due(5, "graft(0, 6, " + plan + ")", x.graft(0, 6, plan), -2);
        }
        PersistentMap y = full();
        due(5, "graft(0, 40, 1) when full", y.graft(0, 40, 1), -1);
        due(5, "graft(0, 39, 9) when full", y.graft(0, 39, 9), -2);
        due(5, "graft(0, 39, 1) when full", y.graft(0, 39, 1), -3);
    }

    private static void exchange() {
        PersistentMap x = tree();
        due(6, "exchange(6, 0, 31)", x.exchange(6, 0, 31), 7);
        due(6, "get(7, 0)", x.get(7, 0), 7);
        due(6, "get(7, 31)", x.get(7, 31), 5);
        due(6, "get(7, 3)", x.get(7, 3), -3);
        due(6, "get(6, 0)", x.get(6, 0), 5);
        due(6, "parent(7)", x.parent(7), 6);
        due(6, "exchange(6, 3, 4)", x.exchange(6, 3, 4), 8);
        due(6, "has(8, 3)", x.has(8, 3), 0);
        due(6, "get(8, 3)", x.get(8, 3), 0);
        due(6, "get(8, 4)", x.get(8, 4), -3);
        due(6, "exchange(6, 4, 3)", x.exchange(6, 4, 3), 9);
        due(6, "differing(8, 9)", x.differing(8, 9), 0);
        due(6, "exchange(6, 1, 2)", x.exchange(6, 1, 2), 10);
        due(6, "differing(6, 10)", x.differing(6, 10), 0);
        due(6, "exchange(6, 3, 3)", x.exchange(6, 3, 3), 11);
        due(6, "differing(6, 11)", x.differing(6, 11), 0);

        due(6, "exchange(-1, 0, 1)", x.exchange(-1, 0, 1), -1);
        due(6, "exchange(12, 0, 1)", x.exchange(12, 0, 1), -1);
        due(6, "exchange(12, 32, 32)", x.exchange(12, 32, 32), -1);
        for (int key : BAD_KEYS) {
            due(6, "exchange(6, 0, " + key + ")", x.exchange(6, 0, key), -2);
            due(6, "exchange(6, " + key + ", 0)", x.exchange(6, key, 0), -2);
            due(6, "exchange(6, " + key + ", same)", x.exchange(6, key, key), -2);
        }
        PersistentMap y = full();
        due(6, "exchange(40, 0, 1) when full", y.exchange(40, 0, 1), -1);
        due(6, "exchange(0, 0, 32) when full", y.exchange(0, 0, 32), -2);
        due(6, "exchange(0, 0, 1) when full", y.exchange(0, 0, 1), -3);
    }

    private static void versions() {
        PersistentMap x = new PersistentMap();
        due(7, "versions()", x.versions(), 1);
        x.put(0, 1, 1);
        due(7, "versions() after put", x.versions(), 2);
        x.remove(0, 1);
        due(7, "versions() after remove", x.versions(), 3);
        x.fill(0, 1, 1, 1);
        due(7, "versions() after fill", x.versions(), 4);
        x.graft(0, 1, 1);
        due(7, "versions() after graft", x.versions(), 5);
        x.exchange(0, 1, 1);
        due(7, "versions() after exchange", x.versions(), 6);
        x.put(0, 32, 1);
        due(7, "versions() after a refused put", x.versions(), 6);
        PersistentMap y = full();
        due(7, "versions() when full", y.versions(), 40);
        y.put(0, 0, 0);
        due(7, "versions() after a put when full", y.versions(), 40);
    }

    private static void parent() {
        PersistentMap x = tree();
        int[] parents = {-2, 0, 1, 1, 2, 0, 4, -1};
        for (int v = 0; v < parents.length; v++) {
            due(8, "parent(" + v + ")", x.parent(v), parents[v]);
        }
        due(8, "parent(-1)", x.parent(-1), -1);
        due(8, "parent(-2)", x.parent(-2), -1);
        due(8, "parent(MIN)", x.parent(MIN), -1);
        due(8, "parent(MAX)", x.parent(MAX), -1);
        PersistentMap y = full();
        due(8, "parent(39) when full", y.parent(39), 38);
        due(8, "parent(40) when full", y.parent(40), -1);
    }

    private static void ancestor() {
        PersistentMap x = tree();
        String[] rows = {"1111111", "0111101", "0010101", "0001000", "0000101", "0000010", "0000001"};
        for (int v = 0; v < 7; v++) {
            for (int w = 0; w < 7; w++) {
                due(9, "ancestor(" + v + ", " + w + ")", x.ancestor(v, w), rows[v].charAt(w) - '0');
            }
        }
        due(9, "ancestor(-1, 0)", x.ancestor(-1, 0), -1);
        due(9, "ancestor(0, -1)", x.ancestor(0, -1), -1);
        due(9, "ancestor(7, 0)", x.ancestor(7, 0), -1);
        due(9, "ancestor(0, 7)", x.ancestor(0, 7), -1);
        due(9, "ancestor(7, 7)", x.ancestor(7, 7), -1);
        due(9, "ancestor(MIN, MAX)", x.ancestor(MIN, MAX), -1);
        PersistentMap y = full();
        due(9, "ancestor(0, 39) when full", y.ancestor(0, 39), 1);
        due(9, "ancestor(39, 38) when full", y.ancestor(39, 38), 0);
        due(9, "ancestor(0, 40) when full", y.ancestor(0, 40), -1);
    }

    private static void meet() {
        PersistentMap x = tree();
        String[] rows = {"0000000", "0111101", "0121202", "0113101", "0121404", "0000050", "0121406"};
        for (int v = 0; v < 7; v++) {
            for (int w = 0; w < 7; w++) {
                due(10, "meet(" + v + ", " + w + ")", x.meet(v, w), rows[v].charAt(w) - '0');
            }
        }
        due(10, "meet(-1, 0)", x.meet(-1, 0), -1);
        due(10, "meet(0, -1)", x.meet(0, -1), -1);
        due(10, "meet(7, 0)", x.meet(7, 0), -1);
        due(10, "meet(0, 7)", x.meet(0, 7), -1);
        due(10, "meet(MAX, MIN)", x.meet(MAX, MIN), -1);
        PersistentMap y = full();
        due(10, "meet(39, 38) when full", y.meet(39, 38), 38);
        due(10, "meet(39, 39) when full", y.meet(39, 39), 39);
    }

    private static void family() {
        PersistentMap x = tree();
        int[] families = {7, 5, 3, 1, 2, 1, 1, -1};
        for (int v = 0; v < families.length; v++) {
            due(11, "family(" + v + ")", x.family(v), families[v]);
        }
        due(11, "family(-1)", x.family(-1), -1);
        due(11, "family(MIN)", x.family(MIN), -1);
        due(11, "family(MAX)", x.family(MAX), -1);
        PersistentMap y = full();
        due(11, "family(0) when full", y.family(0), 40);
        due(11, "family(39) when full", y.family(39), 1);
        due(11, "family(40) when full", y.family(40), -1);
    }

    private static void has() {
        PersistentMap x = tree();
        for (int key = 0; key < 32; key++) {
            boolean due = key == 0 || key == 3 || key == 10 || key == 31;
            due(12, "has(6, " + key + ")", x.has(6, key), due ? 1 : 0);
        }
        due(12, "has(5, 20)", x.has(5, 20), 1);
        due(12, "has(-1, 0)", x.has(-1, 0), -1);
        due(12, "has(7, 0)", x.has(7, 0), -1);
        due(12, "has(7, 32)", x.has(7, 32), -1);
        for (int key : BAD_KEYS) {
            due(12, "has(6, " + key + ")", x.has(6, key), -2);
        }
    }

    private static void get() {
        PersistentMap x = tree();
        due(13, "get(6, 0)", x.get(6, 0), 5);
        due(13, "get(6, 3)", x.get(6, 3), -3);
        due(13, "get(6, 10)", x.get(6, 10), 100);
        due(13, "get(6, 31)", x.get(6, 31), 7);
        due(13, "get(3, 3)", x.get(3, 3), 4);
        due(13, "get(6, 20)", x.get(6, 20), 0);
        due(13, "get(5, 20)", x.get(5, 20), 0);
        due(13, "get(7, 0)", x.get(7, 0), 0);
        due(13, "get(-1, 0)", x.get(-1, 0), 0);
        due(13, "get(-1, 32)", x.get(-1, 32), 0);
        due(13, "get(MIN, MIN)", x.get(MIN, MIN), 0);
        for (int v = 0; v < 7; v++) {
            for (int key : BAD_KEYS) {
                due(13, "get(" + v + ", " + key + ")", x.get(v, key), 0);
            }
        }
        PersistentMap y = full();
        due(13, "get(39, 0) when full", y.get(39, 0), 32);
        due(13, "get(39, 32) when full", y.get(39, 32), 0);
        due(13, "get(40, 0) when full", y.get(40, 0), 0);
    }

    private static void size() {
        PersistentMap x = tree();
        int[] sizes = {0, 1, 2, 2, 3, 1, 4, -1};
        for (int v = 0; v < sizes.length; v++) {
            due(14, "size(" + v + ")", x.size(v), sizes[v]);
        }
        due(14, "size(-1)", x.size(-1), -1);
        due(14, "size(MIN)", x.size(MIN), -1);
        due(14, "size(MAX)", x.size(MAX), -1);
        PersistentMap y = full();
        due(14, "size(31) when full", y.size(31), 31);
        due(14, "size(32) when full", y.size(32), 32);
        due(14, "size(39) when full", y.size(39), 32);
        due(14, "size(40) when full", y.size(40), -1);
    }

    private static void next() {
        PersistentMap x = tree();
        int[][] rows = {{MIN, 0}, {-1, 0}, {0, 0}, {1, 3}, {3, 3}, {4, 10}, {10, 10}, {11, 31}, {31, 31}, {32, -2}, {MAX, -2}};
        for (int[] row : rows) {
            due(15, "next(6, " + row[0] + ")", x.next(6, row[0]), row[1]);
        }
        due(15, "next(5, 0)", x.next(5, 0), 20);
        due(15, "next(5, 21), key 0 being in version 6", x.next(5, 21), -2);
        due(15, "next(0, 0)", x.next(0, 0), -2);
        due(15, "next(-1, 0)", x.next(-1, 0), -1);
        due(15, "next(7, 0)", x.next(7, 0), -1);
        due(15, "next(MAX, MAX)", x.next(MAX, MAX), -1);
    }

    private static void previous() {
        PersistentMap x = tree();
        int[][] rows = {{MAX, 31}, {32, 31}, {31, 31}, {30, 10}, {10, 10}, {9, 3}, {3, 3}, {2, 0}, {0, 0}, {-1, -2}, {MIN, -2}};
        for (int[] row : rows) {
            due(16, "previous(6, " + row[0] + ")", x.previous(6, row[0]), row[1]);
        }
        due(16, "previous(5, 31)", x.previous(5, 31), 20);
        due(16, "previous(5, 32), key 0 being in version 6", x.previous(5, 32), 20);
        due(16, "previous(5, 19)", x.previous(5, 19), -2);
        due(16, "previous(0, 31)", x.previous(0, 31), -2);
        due(16, "previous(-1, 0)", x.previous(-1, 0), -1);
        due(16, "previous(7, 0)", x.previous(7, 0), -1);
        due(16, "previous(MIN, MIN)", x.previous(MIN, MIN), -1);
    }

    private static void select() {
        PersistentMap x = tree();
        int[][] rows = {{0, 0}, {1, 3}, {2, 10}, {3, 31}, {4, -2}, {32, -2}, {-1, -2}, {MIN, -2}, {MAX, -2}};
        for (int[] row : rows) {
            due(17, "select(6, " + row[0] + ")", x.select(6, row[0]), row[1]);
        }
        due(17, "select(0, 0)", x.select(0, 0), -2);
        due(17, "select(-1, 0)", x.select(-1, 0), -1);
        due(17, "select(7, 0)", x.select(7, 0), -1);
        due(17, "select(7, -1)", x.select(7, -1), -1);
        PersistentMap y = full();
        due(17, "select(39, 31) when full", y.select(39, 31), 31);
        due(17, "select(39, 32) when full", y.select(39, 32), -2);
    }

    private static void sum() {
        PersistentMap x = tree();
        int[][] rows = {
            {0, 31, 109}, {MIN, MAX, 109}, {0, 0, 5}, {31, 31, 7}, {1, 2, 0}, {0, 3, 2}, {3, 10, 97}, {4, 30, 100},
            {11, MAX, 7}, {MIN, 9, 2}, {10, 3, 0}, {MAX, MIN, 0}, {32, MAX, 0}, {MIN, -1, 0}
        };
        for (int[] row : rows) {
            due(18, "sum(6, " + row[0] + ", " + row[1] + ")", x.sum(6, row[0], row[1]), row[2]);
        }
        due(18, "sum(0, 0, 31)", x.sum(0, 0, 31), 0);
        due(18, "sum(5, 0, MAX), key 0 being in version 6", x.sum(5, 0, MAX), 0);
        due(18, "sum(6, MIN, 31), key 20 being in version 5", x.sum(6, MIN, 31), 109);
        due(18, "sum(-1, 0, 31)", x.sum(-1, 0, 31), 0);
        due(18, "sum(7, 0, 31)", x.sum(7, 0, 31), 0);
        due(18, "sum(MAX, 0, 31)", x.sum(MAX, 0, 31), 0);
        due(18, "put(6, 1, MAX)", x.put(6, 1, MAX), 7);
        due(18, "sum(7, 0, 1)", x.sum(7, 0, 1), MIN + 4);
        due(18, "sum(7, 0, 31)", x.sum(7, 0, 31), MIN + 108);
    }

    private static void differing() {
        PersistentMap x = tree();
        due(19, "differing(6, 6)", x.differing(6, 6), 0);
        due(19, "differing(0, 6)", x.differing(0, 6), 4);
        due(19, "differing(6, 0)", x.differing(6, 0), 4);
        due(19, "differing(2, 3)", x.differing(2, 3), 1);
        due(19, "differing(3, 6)", x.differing(3, 6), 3);
        due(19, "differing(5, 6)", x.differing(5, 6), 5);
        due(19, "differing(0, 5), a value of 0", x.differing(0, 5), 1);
        due(19, "differing(5, 0), a value of 0", x.differing(5, 0), 1);
        due(19, "differing(-1, 0)", x.differing(-1, 0), -1);
        due(19, "differing(0, -1)", x.differing(0, -1), -1);
        due(19, "differing(7, 0)", x.differing(7, 0), -1);
        due(19, "differing(0, 7)", x.differing(0, 7), -1);
        due(19, "differing(7, 7)", x.differing(7, 7), -1);
        due(19, "remove(3, 3)", x.remove(3, 3), 7);
        due(19, "differing(1, 7), put and removed", x.differing(1, 7), 0);
        PersistentMap y = full();
        due(19, "differing(0, 39) when full", y.differing(0, 39), 32);
    }

    private static void spread() {
        PersistentMap x = tree();
        due(20, "spread(0)", x.spread(0), 5);
        due(20, "spread(3)", x.spread(3), 4);
        due(20, "spread(10)", x.spread(10), 2);
        due(20, "spread(20)", x.spread(20), 1);
        due(20, "spread(31)", x.spread(31), 1);
        due(20, "spread(1)", x.spread(1), 0);
        x.remove(6, 3);
        due(20, "spread(3) after remove", x.spread(3), 4);
        for (int key : BAD_KEYS) {
            due(20, "spread(" + key + ")", x.spread(key), -1);
        }
        PersistentMap y = full();
        due(20, "spread(1) when full", y.spread(1), 39);
        due(20, "spread(0) when full", y.spread(0), 8);
    }

    private static void changes() {
        PersistentMap x = tree();
        due(21, "changes(0)", x.changes(0), 1);
        due(21, "changes(3)", x.changes(3), 2);
        due(21, "changes(10)", x.changes(10), 1);
        due(21, "changes(20), a value of 0", x.changes(20), 1);
        due(21, "changes(1)", x.changes(1), 0);
        x.put(6, 3, -3);
        due(21, "changes(3) after a put of the same value", x.changes(3), 2);
        x.remove(6, 3);
        due(21, "changes(3) after a remove", x.changes(3), 3);
        x.remove(8, 3);
        due(21, "changes(3) after a remove of an absent key", x.changes(3), 3);
        x.remove(5, 20);
        due(21, "changes(20) after a remove of a value of 0", x.changes(20), 2);
        x.exchange(6, 0, 1);
        due(21, "changes(0) after an exchange", x.changes(0), 2);
        due(21, "changes(1) after an exchange", x.changes(1), 1);
        for (int key : BAD_KEYS) {
            due(21, "changes(" + key + ")", x.changes(key), -1);
        }
        PersistentMap y = full();
        due(21, "changes(1) when full", y.changes(1), 2);
        due(21, "changes(31) when full", y.changes(31), 1);
    }

    private static void dueTreeAsMade(PersistentMap x, String after) {
        int[] sums = {0, 5, 2, 9, 102, 0, 109};
        int[] sizes = {0, 1, 2, 2, 3, 1, 4};
        int[] parents = {-2, 0, 1, 1, 2, 0, 4};
        due(7, "versions() after " + after, x.versions(), 7);
        for (int v = 0; v < 7; v++) {
            due(18, "sum(" + v + ", 0, 31) after " + after, x.sum(v, 0, 31), sums[v]);
            due(14, "size(" + v + ") after " + after, x.size(v), sizes[v]);
            due(8, "parent(" + v + ") after " + after, x.parent(v), parents[v]);
        }
    }

    private static void refusedCallsChangeNothing() {
        PersistentMap x = tree();
        for (int bad : new int[] {-1, 7, MIN, MAX}) {
            x.put(bad, 0, 1);
            x.remove(bad, 0);
            x.fill(bad, 8, 1, 1);
            x.graft(bad, 0, 8);
            x.graft(6, bad, 8);
            x.exchange(bad, 0, 1);
        }
        for (int bad : BAD_KEYS) {
            x.put(6, bad, 1);
            x.remove(6, bad);
            x.exchange(6, bad, 0);
            x.exchange(6, 0, bad);
        }
        for (int bad : BAD_PLANS) {
            x.fill(6, bad, 1, 1);
            x.graft(6, 0, bad);
        }
        dueTreeAsMade(x, "refused calls");

        PersistentMap y = full();
        y.put(39, 0, 1);
        y.remove(39, 1);
        y.fill(39, 8, 1, 1);
        y.graft(39, 0, 8);
        y.exchange(39, 0, 1);
        due(7, "versions() after refused calls when full", y.versions(), 40);
        due(13, "get(39, 0) after refused calls when full", y.get(39, 0), 32);
        due(13, "get(39, 1) after refused calls when full", y.get(39, 1), 33);
        due(14, "size(0) after refused calls when full", y.size(0), 0);
        due(18, "sum(39, 0, 31) after refused calls when full", y.sum(39, 0, 31), 752);
    }

    private static void questionsChangeNothing() {
        PersistentMap x = tree();
        for (int v = -1; v < 8; v++) {
            x.parent(v);
            x.family(v);
            x.size(v);
            x.ancestor(v, 6);
            x.meet(v, 6);
            x.differing(v, 6);
            x.has(v, 3);
            x.get(v, 3);
            x.next(v, 1);
            x.previous(v, 30);
            x.select(v, 1);
            x.sum(v, 1, 30);
        }
        for (int key = -1; key <= 32; key++) {
            x.spread(key);
            x.changes(key);
        }
        dueTreeAsMade(x, "questions");
    }
}
