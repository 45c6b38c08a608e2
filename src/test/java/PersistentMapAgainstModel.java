import java.util.ArrayList;
import java.util.List;
import java.util.Map;
import java.util.Objects;
import java.util.Set;
import java.util.TreeMap;
import java.util.TreeSet;

/**
 * Long runs of mixed calls, each answer compared with that of a model written straight from the
 * document over the Java library's maps. The calls come from a fixed sequence of numbers, so every
 * run of this test is the same.
 */
public final class PersistentMapAgainstModel {
    private static final int RUNS = 3000;
    // The document promises nothing after an object's 512th call.
    private static final int CALLS = 512;
    private static final int METHODS = 20;
    private static final int MAKERS = 5;
    private static final int[] EDGES = {
        Integer.MIN_VALUE, Integer.MIN_VALUE + 1, -16, -15, -2, -1, 0, 1, 8, 9, 31, 32, 33, 39, 40, 41, 392, 408, 497,
        498, 513, Integer.MAX_VALUE - 14, Integer.MAX_VALUE - 1, Integer.MAX_VALUE
    };

    private static long state;

    private static int number(int bound) {
        state = state * 6364136223846793005L + 1442695040888963407L;
        return (int) ((state >>> 33) % bound);
    }

    private static int edge() {
        return EDGES[number(EDGES.length)];
    }

    private static int someVersion(int versions) {
        int kind = number(12);
        return kind == 0 ? edge() : kind == 1 ? versions : number(versions);
    }

    private static int someKey() {
        return number(12) == 0 ? edge() : number(32);
    }

    private static int somePlan() {
        int kind = number(8);
        return kind == 0 ? edge() : kind == 1 ? number(600) - 40 : 16 * number(32) + 1 + number(8);
    }

    // Few different values, 0 among them, so that versions come to agree by chance too.
    private static int someValue() {
        return number(4) == 0 ? edge() : number(3);
    }

    private static int someBound() {
        return number(4) == 0 ? edge() : number(36) - 2;
    }

    public static void main(String[] args) {
        int wrong = 0;
        for (int run = 1; run <= RUNS; run++) {
            state = run;
            if (!runIsAsDue(run)) {
                wrong++;
            }
        }
        System.out.println(wrong == 0 ? "all answers are as due" : wrong + " runs are not as due");
        if (wrong != 0) {
            System.exit(1);
        }
    }

    private static boolean runIsAsDue(int run) {
        PersistentMap x = new PersistentMap();
        Model model = new Model();
        // Some runs fill up quickly, others stay for long below 40 versions.
        int makersInHundred = 5 + number(60);
        for (int i = 1; i <= CALLS; i++) {
            int method = number(100) < makersInHundred ? number(MAKERS) : MAKERS + number(METHODS - MAKERS);
            int[] a = arguments(method, model.versions());
            int want = askModel(model, method, a);
            int got = ask(x, method, a);
            if (got != want) {
                System.out.println("run " + run + ", call " + i + ": " + text(method, a) + " answered " + got
                        + ", due is " + want);
                return false;
            }
        }
        return true;
    }

    private static int[] arguments(int method, int versions) {
        int v = someVersion(versions);
        int w = someVersion(versions);
        switch (method) {
            case 0: return new int[] {v, someKey(), someValue()};
            case 2: return new int[] {v, somePlan(), someValue(), someValue()};
            case 3: return new int[] {v, w, somePlan()};
            case 4: return new int[] {v, someKey(), someKey()};
            case 5: return new int[] {};
            case 6: case 9: case 12: return new int[] {v};
            case 7: case 8: case 17: return new int[] {v, w};
            case 1: case 10: case 11: return new int[] {v, someKey()};
            case 13: case 14: case 15: return new int[] {v, someBound()};
            case 16: return new int[] {v, someBound(), someBound()};
            default: return new int[] {someKey()};
        }
    }

    private static String text(int method, int[] a) {
        String[] names = {
            "put", "remove", "fill", "graft", "exchange", "versions", "parent", "ancestor", "meet", "family", "has",
            "get", "size", "next", "previous", "select", "sum", "differing", "spread", "changes"
        };
        StringBuilder text = new StringBuilder(names[method]).append('(');
        for (int i = 0; i < a.length; i++) {
            text.append(i == 0 ? "" : ", ").append(a[i]);
        }
        return text.append(')').toString();
    }

    private static int ask(PersistentMap x, int method, int[] a) {
        switch (method) {
            case 0: return x.put(a[0], a[1], a[2]);
            case 1: return x.remove(a[0], a[1]);
            case 2: return x.fill(a[0], a[1], a[2], a[3]);
            case 3: return x.graft(a[0], a[1], a[2]);
            case 4: return x.exchange(a[0], a[1], a[2]);
            case 5: return x.versions();
            case 6: return x.parent(a[0]);
            case 7: return x.ancestor(a[0], a[1]);
            case 8: return x.meet(a[0], a[1]);
            case 9: return x.family(a[0]);
            case 10: return x.has(a[0], a[1]);
            case 11: return x.get(a[0], a[1]);
            case 12: return x.size(a[0]);
            case 13: return x.next(a[0], a[1]);
            case 14: return x.previous(a[0], a[1]);
            case 15: return x.select(a[0], a[1]);
            case 16: return x.sum(a[0], a[1], a[2]);
            case 17: return x.differing(a[0], a[1]);
            case 18: return x.spread(a[0]);
            default: return x.changes(a[0]);
        }
    }

    private static int askModel(Model m, int method, int[] a) {
        switch (method) {
            case 0: return m.put(a[0], a[1], a[2]);
            case 1: return m.remove(a[0], a[1]);
            case 2: return m.fill(a[0], a[1], a[2], a[3]);
            case 3: return m.graft(a[0], a[1], a[2]);
            case 4: return m.exchange(a[0], a[1], a[2]);
            case 5: return m.versions();
            case 6: return m.parent(a[0]);
            case 7: return m.ancestor(a[0], a[1]);
            case 8: return m.meet(a[0], a[1]);
            case 9: return m.family(a[0]);
            case 10: return m.has(a[0], a[1]);
            case 11: return m.get(a[0], a[1]);
            case 12: return m.size(a[0]);
            case 13: return m.next(a[0], a[1]);
            case 14: return m.previous(a[0], a[1]);
            case 15: return m.select(a[0], a[1]);
            case 16: return m.sum(a[0], a[1], a[2]);
            case 17: return m.differing(a[0], a[1]);
            case 18: return m.spread(a[0]);
            default: return m.changes(a[0]);
        }
    }

    private static final class Model {
        private final List<TreeMap<Integer, Integer>> maps = new ArrayList<>();
        private final List<TreeSet<Integer>> ancestors = new ArrayList<>();
        private final List<Integer> parents = new ArrayList<>();

        Model() {
            maps.add(new TreeMap<>());
            ancestors.add(new TreeSet<>(Set.of(0)));
            parents.add(-2);
        }

        private boolean bad(int v) {
            return v < 0 || v >= maps.size();
        }

        private static boolean badKey(int key) {
            return key < 0 || key > 31;
        }

        /** The keys of a plan, found by trying every good one; none for a bad plan. */
        private static List<Integer> keys(int plan) {
            List<Integer> keys = new ArrayList<>();
            for (int first = 0; first < 32; first++) {
                for (int count = 1; count <= 8 && first + count <= 32; count++) {
                    for (int i = 0; 16 * first + count == plan && i < count; i++) {
                        keys.add(first + i);
                    }
                }
            }
            return keys;
        }

        private int add(int v, TreeMap<Integer, Integer> map) {
            int made = maps.size();
            maps.add(map);
            TreeSet<Integer> above = new TreeSet<>(ancestors.get(v));
            above.add(made);
            ancestors.add(above);
            parents.add(v);
            return made;
        }

        private static void set(Map<Integer, Integer> map, int key, Integer value) {
            if (value == null) {
                map.remove(key);
            } else {
                map.put(key, value);
            }
        }

        int put(int v, int key, int value) {
            if (bad(v)) return -1;
            if (badKey(key)) return -2;
            if (maps.size() == 40) return -3;
            TreeMap<Integer, Integer> map = new TreeMap<>(maps.get(v));
            map.put(key, value);
            return add(v, map);
        }

        int remove(int v, int key) {
            if (bad(v)) return -1;
            if (badKey(key)) return -2;
            if (maps.size() == 40) return -3;
            TreeMap<Integer, Integer> map = new TreeMap<>(maps.get(v));
            map.remove(key);
            return add(v, map);
        }

        int fill(int v, int plan, int value, int step) {
            if (bad(v)) return -1;
            if (keys(plan).isEmpty()) return -2;
            if (maps.size() == 40) return -3;
            TreeMap<Integer, Integer> map = new TreeMap<>(maps.get(v));
            long due = value;
            for (int key : keys(plan)) {
                map.put(key, (int) due);
                due += step;
            }
            return add(v, map);
        }

        int graft(int v, int w, int plan) {
            if (bad(v) || bad(w)) return -1;
            if (keys(plan).isEmpty()) return -2;
            if (maps.size() == 40) return -3;
            TreeMap<Integer, Integer> map = new TreeMap<>(maps.get(v));
            for (int key : keys(plan)) {
                set(map, key, maps.get(w).get(key));
            }
            return add(v, map);
        }

        int exchange(int v, int a, int b) {
            if (bad(v)) return -1;
            if (badKey(a) || badKey(b)) return -2;
            if (maps.size() == 40) return -3;
            TreeMap<Integer, Integer> map = new TreeMap<>(maps.get(v));
            set(map, a, maps.get(v).get(b));
            set(map, b, maps.get(v).get(a));
            return add(v, map);
        }

        int versions() {
            return maps.size();
        }

        int parent(int v) {
            return bad(v) ? -1 : parents.get(v);
        }

        int ancestor(int v, int w) {
            return bad(v) || bad(w) ? -1 : ancestors.get(w).contains(v) ? 1 : 0;
        }

        int meet(int v, int w) {
            if (bad(v) || bad(w)) return -1;
            TreeSet<Integer> common = new TreeSet<>(ancestors.get(v));
            common.retainAll(ancestors.get(w));
            return common.last();
        }

        int family(int v) {
            return bad(v) ? -1 : (int) ancestors.stream().filter(set -> set.contains(v)).count();
        }

        int has(int v, int key) {
            return bad(v) ? -1 : badKey(key) ? -2 : maps.get(v).containsKey(key) ? 1 : 0;
        }

        int get(int v, int key) {
            return bad(v) || badKey(key) ? 0 : maps.get(v).getOrDefault(key, 0);
        }

        int size(int v) {
            return bad(v) ? -1 : maps.get(v).size();
        }

        int next(int v, int from) {
            return bad(v) ? -1 : Objects.requireNonNullElse(maps.get(v).ceilingKey(from), -2);
        }

        int previous(int v, int to) {
            return bad(v) ? -1 : Objects.requireNonNullElse(maps.get(v).floorKey(to), -2);
        }

        int select(int v, int k) {
            if (bad(v)) return -1;
            List<Integer> keys = new ArrayList<>(maps.get(v).keySet());
            return k < 0 || k >= keys.size() ? -2 : keys.get(k);
        }

        int sum(int v, int first, int last) {
            if (bad(v) || first > last) return 0;
            long total = 0;
            for (int value : maps.get(v).subMap(first, true, last, true).values()) {
                total += value;
            }
            return (int) total;
        }

        private boolean agree(int v, int w, int key) {
            return Objects.equals(maps.get(v).get(key), maps.get(w).get(key));
        }

        int differing(int v, int w) {
            if (bad(v) || bad(w)) return -1;
            int found = 0;
            for (int key = 0; key < 32; key++) {
                found += agree(v, w, key) ? 0 : 1;
            }
            return found;
        }

        int spread(int key) {
            return badKey(key) ? -1 : (int) maps.stream().filter(map -> map.containsKey(key)).count();
        }

        int changes(int key) {
            if (badKey(key)) return -1;
            int found = 0;
            for (int v = 1; v < maps.size(); v++) {
                found += agree(v, parents.get(v), key) ? 0 : 1;
            }
            return found;
        }
    }
}
