import java.util.ArrayList;
import java.util.LinkedHashMap;
import java.util.List;
import java.util.Map;
import java.util.function.Consumer;
import java.util.function.Supplier;

/**
 * A test of its own for each sentence of the document that names a boundary case, and for those that
 * say what a version and an ancestor are. The name of a test quotes its sentence.
 */
public final class PersistentMapBoundaries {
    private static final int MIN = Integer.MIN_VALUE;
    private static final int MAX = Integer.MAX_VALUE;
    // Multiplied by the number of keys this wraps to 0, so a check made after the product would miss it.
    private static final int WRAPS = 1 << 27;
    private static final int[] BAD_KEYS = {-1, 32, -2, 33, -32, 64, WRAPS, MIN, MAX};
    private static final int[] BAD_PLANS = {0, 9, -15, 498, 513, MIN + 1, MAX - 7};

    private static String sentence = "";
    private static int tests = 0;
    private static int wrong = 0;

    private interface OnVersion {
        int ask(PersistentMap x, int v);
    }

    private interface OnKey {
        int ask(PersistentMap x, int key);
    }

    private static void test(String name, Runnable body) {
        sentence = name;
        tests++;
        try {
            body.run();
        } catch (RuntimeException e) {
            report("threw " + e);
        }
    }

    private static void report(String what) {
        wrong++;
        System.out.println(sentence + ": " + what);
    }

    private static void due(String call, int got, int want) {
        if (got != want) {
            report(call + " answered " + got + ", due is " + want);
        }
    }

    private static void dueState(String after, List<String> got, List<String> want) {
        for (int i = 0; i < Math.max(got.size(), want.size()); i++) {
            String one = i < got.size() ? got.get(i) : "nothing";
            String other = i < want.size() ? want.get(i) : "nothing";
            if (!one.equals(other)) {
                report("after " + after + " there is " + one + ", due is " + other);
            }
        }
    }

    public static void main(String[] args) {
        allVersionsStayUsable();
        calls();
        termsOfKeysAndVersions();
        termsOfCalls();
        newObject();
        put();
        remove();
        fillVersions();
        fillPlans();
        graftVersions();
        graftPlans();
        exchange();
        versions();
        parent();
        ancestor();
        meet();
        family();
        has();
        get();
        size();
        next();
        previous();
        select();
        sum();
        differing();
        spread();
        changes();
        System.out.println(tests + " tests, " + (wrong == 0 ? "all answers are as due" : wrong + " things are not as due"));
        if (wrong != 0) {
            System.exit(1);
        }
    }

    // ---- objects to ask

    /**
     * Versions 0 .. 6 with the parents -, 0, 1, 1, 2, 0, 4; version 6 has the keys 0, 3, 10, 31
     * with the values 5, -3, 100, 7; version 5 has key 20 alone, with the value 0.
     */
    private static PersistentMap tree() {
        PersistentMap x = new PersistentMap();
        x.put(0, 0, 5);
        x.put(1, 3, -3);
        x.put(1, 3, 4);
        x.put(2, 10, 100);
        x.put(0, 20, 0);
        x.put(4, 31, 7);
        return x;
    }

    /** A line of versions 0 .. n - 1, version i made by putting the value i to key i % 32 of version i - 1. */
    private static PersistentMap line(int n) {
        PersistentMap x = new PersistentMap();
        for (int i = 1; i < n; i++) {
            x.put(i - 1, i % 32, i);
        }
        return x;
    }

    private static PersistentMap full() {
        return line(40);
    }

    /** Versions 0 .. 39, version i with the parent (i - 1) / 2: two made from each, while there is room. */
    private static PersistentMap bush() {
        PersistentMap x = new PersistentMap();
        for (int i = 1; i < 40; i++) {
            x.put((i - 1) / 2, i % 32, i);
        }
        return x;
    }

    private static int[] badVersions(int versions) {
        return new int[] {-1, versions, versions + 1, 40, 41, -2, -40, WRAPS, -WRAPS, WRAPS + 1, MIN, MAX};
    }

    /** All keys of one version in words; takes 64 of the object's 512 calls. */
    private static String content(PersistentMap x, int v) {
        StringBuilder words = new StringBuilder("{");
        for (int key = 0; key < 32; key++) {
            int there = x.has(v, key);
            int value = x.get(v, key);
            if (there != 0 || value != 0) {
                words.append(' ').append(key).append(there == 1 ? "=" : "!" + there + "=").append(value);
            }
        }
        return words.append(" }").toString();
    }

    /** All that can be seen of an object: a new one for each version, since an object is good for 512 calls. */
    private static List<String> state(Supplier<PersistentMap> maker) {
        List<String> seen = new ArrayList<>();
        int versions = maker.get().versions();
        seen.add(versions + " versions");
        for (int v = 0; v < versions; v++) {
            PersistentMap x = maker.get();
            seen.add("version " + v + " of parent " + x.parent(v) + " and size " + x.size(v) + " " + content(x, v));
        }
        PersistentMap x = maker.get();
        for (int key = 0; key < 32; key++) {
            seen.add("key " + key + " with spread " + x.spread(key) + " and changes " + x.changes(key));
        }
        return seen;
    }

    private static Supplier<PersistentMap> and(Supplier<PersistentMap> maker, Consumer<PersistentMap> more) {
        return () -> {
            PersistentMap x = maker.get();
            more.accept(x);
            return x;
        };
    }

    private static Map<String, OnVersion> makers() {
        Map<String, OnVersion> all = new LinkedHashMap<>();
        all.put("put", (x, v) -> x.put(v, 3, 1));
        all.put("remove", (x, v) -> x.remove(v, 3));
        all.put("fill", (x, v) -> x.fill(v, 16 * 2 + 8, 1, 1));
        all.put("graft", (x, v) -> x.graft(v, 3, 16 * 2 + 8));
        all.put("exchange", (x, v) -> x.exchange(v, 3, 4));
        return all;
    }

    // ---- what many promises say alike

    private static void dueForBadVersions(String call, OnVersion asked, int want) {
        PersistentMap x = new PersistentMap();
        for (int v : badVersions(1)) {
            due(call + " with v = " + v + " on a new object", asked.ask(x, v), want);
        }
        PersistentMap y = tree();
        for (int v : badVersions(7)) {
            due(call + " with v = " + v + " and 7 versions", asked.ask(y, v), want);
        }
        PersistentMap z = full();
        for (int v : badVersions(40)) {
            due(call + " with v = " + v + " and 40 versions", asked.ask(z, v), want);
        }
    }

    private static void dueForBadKeys(String call, OnKey asked, int want) {
        PersistentMap x = new PersistentMap();
        PersistentMap y = tree();
        PersistentMap z = full();
        for (int key : BAD_KEYS) {
            due(call + " with key " + key + " on a new object", asked.ask(x, key), want);
            due(call + " with key " + key + " and 7 versions", asked.ask(y, key), want);
            due(call + " with key " + key + " and 40 versions", asked.ask(z, key), want);
        }
    }

    private static void dueOnlyWhenFull(String call, OnVersion made) {
        PersistentMap x = line(39);
        due(call + " with 39 versions", made.ask(x, 0), 39);
        due("versions()", x.versions(), 40);
        for (int v : new int[] {0, 1, 38, 39}) {
            due(call + " with v = " + v + " and 40 versions", made.ask(x, v), -3);
        }
        due("versions()", x.versions(), 40);
    }

    private static void dueNumbers(String call, OnVersion made) {
        PersistentMap x = tree();
        due(call + " of version 0", made.ask(x, 0), 7);
        due(call + " of version 3", made.ask(x, 3), 8);
        due(call + " of version 3 again", made.ask(x, 3), 9);
        due(call + " of the newest version", made.ask(x, 9), 10);
        int[] parents = {0, 3, 3, 9};
        for (int i = 0; i < parents.length; i++) {
            due("parent(" + (7 + i) + ")", x.parent(7 + i), parents[i]);
        }
    }

    // ---- what it is

    private static void allVersionsStayUsable() {
        test("What it is: each version can be read", () -> {
            PersistentMap x = full();
            for (int v = 0; v < 40; v++) {
                due("size(" + v + ")", x.size(v), Math.min(v, 32));
                due("get(" + v + ", " + v % 32 + ")", x.get(v, v % 32), v);
                due("sum(" + v + ", 0, 0)", x.sum(v, 0, 0), v < 32 ? 0 : 32);
            }
        });
        test("What it is: each version can be changed into a new one", () -> {
            for (Map.Entry<String, OnVersion> maker : makers().entrySet()) {
                PersistentMap x = line(20);
                for (int v = 0; v < 20; v++) {
                    due(maker.getKey() + " of version " + v, maker.getValue().ask(x, v), 20 + v);
                    due("parent(" + (20 + v) + ")", x.parent(20 + v), v);
                }
            }
        });
    }

    // ---- the number of calls

    private static void calls() {
        test("What it is: an object is used for at most 512 calls", () -> {
            PersistentMap x = full();
            for (int i = 40; i < 511; i++) {
                due("put(39, 0, " + i + ") with 40 versions", x.put(39, 0, i), -3);
            }
            due("call 511: versions()", x.versions(), 40);
            due("call 512: get(39, 0)", x.get(39, 0), 32);
            PersistentMap y = new PersistentMap();
            for (int i = 0; i < 511; i++) {
                due("put(0, 32, 0)", y.put(0, 32, 0), -2);
            }
            due("call 512: put(0, 0, 0)", y.put(0, 0, 0), 1);
        });
    }

    // ---- terms

    private static void termsOfKeysAndVersions() {
        test("Terms: KEYS are 0 .. 31", () -> {
            PersistentMap x = new PersistentMap();
            for (int key = 0; key < 32; key++) {
                due("put to key " + key, x.put(key, key, key - 16), key + 1);
            }
            for (int key = 0; key < 32; key++) {
                due("has(32, " + key + ")", x.has(32, key), 1);
                due("get(32, " + key + ")", x.get(32, key), key - 16);
            }
            due("size(32)", x.size(32), 32);
        });
        test("Terms: a VERSION gives some of the keys values (ints), the others are absent in it", () -> {
            for (int value : new int[] {MIN, MIN + 1, -3, -2, -1, 0, 1, MAX - 1, MAX}) {
                PersistentMap x = new PersistentMap();
                x.put(0, 8, value);
                due("get(1, 8)", x.get(1, 8), value);
                for (int key = 0; key < 32; key++) {
                    due("has(1, " + key + ") after put(0, 8, " + value + ")", x.has(1, key), key == 8 ? 1 : 0);
                }
            }
        });
        test("Terms: versions are numbered 0, 1, 2, .. in the order in which they are made", () -> {
            PersistentMap x = new PersistentMap();
            int number = 1;
            for (int round = 0; round < 7; round++) {
                for (Map.Entry<String, OnVersion> maker : makers().entrySet()) {
                    int v = number > 3 ? (7 * number) % number : 0;
                    int want = maker.getKey().equals("graft") && number <= 3 ? -1 : number;
                    due(maker.getKey() + " of version " + v, maker.getValue().ask(x, v), want);
                    due("a refused put", x.put(number + 1, 0, 0), -1);
                    number = want == -1 ? number : number + 1;
                }
            }
            due("versions()", x.versions(), number);
        });
        test("Terms: at most 40", () -> {
            PersistentMap x = new PersistentMap();
            for (int i = 1; i < 40; i++) {
                due("put(0, 0, 0)", x.put(0, 0, 0), i);
            }
            for (int i = 0; i < 100; i++) {
                due("put(0, 0, 0) with 40 versions", x.put(0, 0, 0), -3);
            }
            due("versions()", x.versions(), 40);
            due("size(39)", x.size(39), 1);
            due("size(40)", x.size(40), -1);
        });
        test("Terms: and never change", PersistentMapBoundaries::versionsNeverChange);
        test("Terms: version 0 has no keys", () -> {
            PersistentMap x = full();
            due("size(0)", x.size(0), 0);
            due("next(0, MIN)", x.next(0, MIN), -2);
            due("previous(0, MAX)", x.previous(0, MAX), -2);
            if (!content(x, 0).equals("{ }")) {
                report("version 0 has " + content(x, 0));
            }
        });
        test("Terms: every other version has a PARENT, the version from which it was made", () -> {
            PersistentMap x = full();
            for (int v = 1; v < 40; v++) {
                due("parent(" + v + ")", x.parent(v), v - 1);
            }
            PersistentMap y = tree();
            due("graft(2, 6, 1)", y.graft(2, 6, 1), 7);
            due("parent(7), not the version grafted from", y.parent(7), 2);
        });
        test("Terms: a version is an ANCESTOR of itself", () -> {
            PersistentMap x = full();
            for (int v = 0; v < 40; v++) {
                due("ancestor(" + v + ", " + v + ")", x.ancestor(v, v), 1);
            }
        });
        test("Terms: of every version whose parent it is", () -> {
            PersistentMap x = bush();
            for (int w = 1; w < 40; w++) {
                int v = (w - 1) / 2;
                due("ancestor(" + v + ", " + w + ")", x.ancestor(v, w), 1);
                due("ancestor(" + w + ", " + v + ")", x.ancestor(w, v), 0);
            }
        });
        test("Terms: and of every version that one of these is an ancestor of", () -> {
            for (int v = 0; v < 40; v++) {
                PersistentMap x = bush();
                for (int w = 0; w < 40; w++) {
                    int reached = w;
                    while (reached > v) {
                        reached = (reached - 1) / 2;
                    }
                    due("ancestor(" + v + ", " + w + ")", x.ancestor(v, w), reached == v ? 1 : 0);
                }
            }
        });
    }

    private static void versionsNeverChange() {
        for (Map.Entry<String, OnVersion> maker : makers().entrySet()) {
            List<String> before = state(PersistentMapBoundaries::tree);
            List<String> after = state(and(PersistentMapBoundaries::tree, x -> {
                for (int v = 0; v < 7; v++) {
                    due(maker.getKey() + " of version " + v, maker.getValue().ask(x, v), 7 + v);
                }
            }));
            dueState(maker.getKey() + " of every version", after.subList(1, 8), before.subList(1, 8));
        }
    }

    private static void termsOfCalls() {
        test("Terms: no question changes anything", PersistentMapBoundaries::questionsChangeNothing);
        test("Terms: a refused call changes nothing", PersistentMapBoundaries::refusedCallsChangeNothing);
        test("Terms: the tests are made in the order named: -1 before -2", PersistentMapBoundaries::badVersionFirst);
        test("Terms: the tests are made in the order named: -1 before -3", () -> {
            PersistentMap x = full();
            for (int v : badVersions(40)) {
                due("put", x.put(v, 0, 1), -1);
                due("remove", x.remove(v, 0), -1);
                due("fill", x.fill(v, 1, 1, 1), -1);
                due("graft", x.graft(v, 0, 1), -1);
                due("graft from a bad version", x.graft(0, v, 1), -1);
                due("exchange", x.exchange(v, 0, 1), -1);
            }
        });
        test("Terms: the tests are made in the order named: -2 before -3", () -> {
            PersistentMap x = full();
            for (int key : BAD_KEYS) {
                due("put", x.put(39, key, 1), -2);
                due("remove", x.remove(39, key), -2);
                due("exchange of bad and good", x.exchange(39, key, 0), -2);
                due("exchange of good and bad", x.exchange(39, 0, key), -2);
            }
            for (int plan : BAD_PLANS) {
                due("fill", x.fill(39, plan, 1, 1), -2);
                due("graft", x.graft(39, 0, plan), -2);
            }
        });
        test("Terms: a version is good if there is such a version", () -> {
            PersistentMap x = new PersistentMap();
            for (int n = 1; n < 40; n++) {
                due("size(-1)", x.size(-1), -1);
                due("size(" + (n - 1) + ")", x.size(n - 1), n - 1 < 32 ? n - 1 : 32);
                due("size(" + n + ") before it is made", x.size(n), -1);
                due("put of a version not yet made", x.put(n, 0, 0), -1);
                due("put", x.put(n - 1, n % 32, n), n);
                due("size(" + n + ") after it is made", x.size(n), n < 32 ? n : 32);
            }
        });
        test("Terms: a key if it is 0 .. 31", () -> {
            for (int key = -70; key <= 70; key++) {
                PersistentMap x = tree();
                boolean good = key >= 0 && key <= 31;
                due("put to key " + key, x.put(0, key, 1), good ? 7 : -2);
                due("remove of key " + key, x.remove(0, key), good ? 8 : -2);
                due("exchange of key " + key, x.exchange(0, key, key), good ? 9 : -2);
                due("has(0, " + key + ")", x.has(0, key), good ? 0 : -2);
                due("is spread(" + key + ") an error", x.spread(key) < 0 ? 1 : 0, good ? 0 : 1);
                due("is changes(" + key + ") an error", x.changes(key) < 0 ? 1 : 0, good ? 0 : 1);
            }
        });
        test("Terms: a new version is like its parent but for what is said", PersistentMapBoundaries::likeItsParent);
    }

    private static void badVersionFirst() {
        PersistentMap x = tree();
        PersistentMap y = full();
        for (int v : new int[] {-1, 40, MIN, MAX}) {
            for (int key : BAD_KEYS) {
                due("put", x.put(v, key, 1), -1);
                due("put with 40 versions", y.put(v, key, 1), -1);
                due("remove", x.remove(v, key), -1);
                due("remove with 40 versions", y.remove(v, key), -1);
                due("exchange", x.exchange(v, key, 0), -1);
                due("exchange with 40 versions", y.exchange(v, 0, key), -1);
                due("has", x.has(v, key), -1);
            }
            for (int plan : BAD_PLANS) {
                due("fill", x.fill(v, plan, 1, 1), -1);
                due("fill with 40 versions", y.fill(v, plan, 1, 1), -1);
                due("graft", x.graft(v, 0, plan), -1);
                due("graft from a bad version", x.graft(0, v, plan), -1);
                due("graft with 40 versions", y.graft(0, v, plan), -1);
            }
            due("next where there is none", x.next(v, 32), -1);
            due("previous where there is none", x.previous(v, -1), -1);
            due("select where there is none", x.select(v, -1), -1);
        }
    }

    private static void questionsChangeNothing() {
        Map<String, Consumer<PersistentMap>> all = new LinkedHashMap<>();
        int[] some = {MIN, -1, 0, 1, 3, 5, 6, 7, 31, 32, 39, 40, MAX};
        all.put("versions", x -> x.versions());
        all.put("parent", x -> ofEach(some, a -> x.parent(a)));
        all.put("ancestor", x -> ofEachTwo(some, (a, b) -> x.ancestor(a, b)));
        all.put("meet", x -> ofEachTwo(some, (a, b) -> x.meet(a, b)));
        all.put("family", x -> ofEach(some, a -> x.family(a)));
        all.put("has", x -> ofEachTwo(some, (a, b) -> x.has(a, b)));
        all.put("get", x -> ofEachTwo(some, (a, b) -> x.get(a, b)));
        all.put("size", x -> ofEach(some, a -> x.size(a)));
        all.put("next", x -> ofEachTwo(some, (a, b) -> x.next(a, b)));
        all.put("previous", x -> ofEachTwo(some, (a, b) -> x.previous(a, b)));
        all.put("select", x -> ofEachTwo(some, (a, b) -> x.select(a, b)));
        all.put("sum", x -> ofEachTwo(some, (a, b) -> x.sum(a, b, 31) + x.sum(a, 0, b)));
        all.put("differing", x -> ofEachTwo(some, (a, b) -> x.differing(a, b)));
        all.put("spread", x -> ofEach(some, a -> x.spread(a)));
        all.put("changes", x -> ofEach(some, a -> x.changes(a)));
        all.forEach(PersistentMapBoundaries::dueUnchanged);
    }

    private interface One {
        int ask(int a);
    }

    private interface Two {
        int ask(int a, int b);
    }

    private static void ofEach(int[] some, One asked) {
        for (int a : some) {
            asked.ask(a);
        }
    }

    private static void ofEachTwo(int[] some, Two asked) {
        for (int a : some) {
            for (int b : some) {
                asked.ask(a, b);
            }
        }
    }

    /** A version made afterwards is looked at too: it would show what was left behind for it. */
    private static void dueUnchanged(String call, Consumer<PersistentMap> asked) {
        Consumer<PersistentMap> onePut = x -> x.put(0, 9, 1);
        Supplier<PersistentMap> tree = PersistentMapBoundaries::tree;
        Supplier<PersistentMap> full = PersistentMapBoundaries::full;
        Supplier<PersistentMap> bare = PersistentMap::new;
        dueState(call + " on a new object", state(and(bare, asked)), state(bare));
        dueState(call + " on 7 versions", state(and(tree, asked)), state(tree));
        dueState(call + " and a put", state(and(and(tree, asked), onePut)), state(and(tree, onePut)));
        dueState(call + " on 40 versions", state(and(full, asked)), state(full));
    }

    // An odd number of bad arguments of each kind: a change that undoes itself when made twice still shows.
    private static void refusedCallsChangeNothing() {
        Map<String, Consumer<PersistentMap>> all = new LinkedHashMap<>();
        int[] bad = {-1, 40, 41, MIN, MAX};
        all.put("put refused for its version", x -> ofEach(bad, v -> x.put(v, 3, 1)));
        all.put("put refused for its key", x -> ofEach(BAD_KEYS, key -> x.put(0, key, 1)));
        all.put("remove refused for its version", x -> ofEach(bad, v -> x.remove(v, 3)));
        all.put("remove refused for its key", x -> ofEach(BAD_KEYS, key -> x.remove(0, key)));
        all.put("fill refused for its version", x -> ofEach(bad, v -> x.fill(v, 8, 1, 1)));
        all.put("fill refused for its plan", x -> ofEach(BAD_PLANS, plan -> x.fill(0, plan, 1, 1)));
        all.put("graft refused for its version", x -> ofEach(bad, v -> x.graft(v, 0, 8)));
        all.put("graft refused for its other version", x -> ofEach(bad, v -> x.graft(0, v, 8)));
        all.put("graft refused for its plan", x -> ofEach(BAD_PLANS, plan -> x.graft(0, 0, plan)));
        all.put("exchange refused for its version", x -> ofEach(bad, v -> x.exchange(v, 0, 3)));
        all.put("exchange refused for its first key", x -> ofEach(BAD_KEYS, key -> x.exchange(0, key, 3)));
        all.put("exchange refused for its second key", x -> ofEach(BAD_KEYS, key -> x.exchange(0, 3, key)));
        all.forEach(PersistentMapBoundaries::dueUnchanged);
        Supplier<PersistentMap> full = PersistentMapBoundaries::full;
        makers().forEach((name, maker) -> {
            Consumer<PersistentMap> refused = x -> ofEach(new int[] {0, 3, 20, 38, 39}, v -> maker.ask(x, v));
            dueState(name + " refused for 40 versions", state(and(full, refused)), state(full));
        });
    }

    /** Parents without keys, with some and with all of them; keys 2 .. 9 are the ones that may differ. */
    private static void likeItsParent() {
        int[] sizes = {0, 7, 20, 32};
        for (int v : sizes) {
            for (Map.Entry<String, OnVersion> maker : makers().entrySet()) {
                PersistentMap x = line(35);
                due(maker.getKey() + " of version " + v, maker.getValue().ask(x, v), 35);
                for (int key = 0; key < 32; key++) {
                    if (key < 2 || key > 9) {
                        due(maker.getKey() + ", then has(35, " + key + ")", x.has(35, key), x.has(v, key));
                        due(maker.getKey() + ", then get(35, " + key + ")", x.get(35, key), x.get(v, key));
                    }
                }
            }
        }
    }

    // ---- promise 1

    private static void newObject() {
        test("Promise 1: only version 0", () -> {
            full();
            PersistentMap x = new PersistentMap();
            due("versions()", x.versions(), 1);
            due("size(0)", x.size(0), 0);
            due("size(1)", x.size(1), -1);
            due("parent(0)", x.parent(0), -2);
            due("parent(1)", x.parent(1), -1);
            due("family(0)", x.family(0), 1);
            for (int key = 0; key < 32; key++) {
                due("has(0, " + key + ")", x.has(0, key), 0);
                due("spread(" + key + ")", x.spread(key), 0);
                due("changes(" + key + ")", x.changes(key), 0);
            }
        });
        test("Promise 1: only version 0, whatever another object has", () -> {
            PersistentMap x = new PersistentMap();
            PersistentMap y = new PersistentMap();
            due("put on one object", x.put(0, 1, 11), 1);
            due("versions() of the other", y.versions(), 1);
            due("put on the other", y.put(0, 2, 22), 1);
            due("get(1, 1) of the other", y.get(1, 1), 0);
            due("get(1, 1) of the one", x.get(1, 1), 11);
            due("get(1, 2) of the one", x.get(1, 2), 0);
            due("has(1, 1) of the one", x.has(1, 1), 1);
            due("has(1, 2) of the one", x.has(1, 2), 0);
            due("put on the one", x.put(1, 3, 33), 2);
            due("versions() of the other", y.versions(), 2);
        });
    }

    // ---- promise 2

    private static void put() {
        test("Promise 2: makes a version with parent v in which the key has the value", () -> {
            for (int key : new int[] {0, 1, 30, 31}) {
                for (int value : new int[] {MIN, -1, 0, 1, MAX}) {
                    PersistentMap x = tree();
                    due("put", x.put(6, key, value), 7);
                    due("has(7, " + key + ")", x.has(7, key), 1);
                    due("get(7, " + key + ")", x.get(7, key), value);
                    due("parent(7)", x.parent(7), 6);
                }
            }
        });
        test("Promise 2: makes a version even if the key has the value already", () -> {
            PersistentMap x = tree();
            due("put(6, 0, 5)", x.put(6, 0, 5), 7);
            due("versions()", x.versions(), 8);
            due("differing(6, 7)", x.differing(6, 7), 0);
            due("parent(7)", x.parent(7), 6);
        });
        test("Promise 2: -1 if v is not good", () -> dueForBadVersions("put", (x, v) -> x.put(v, 0, 1), -1));
        test("Promise 2: -2 if key is not good", () -> dueForBadKeys("put", (x, key) -> x.put(0, key, 1), -2));
        test("Promise 2: -3 if there are 40 versions", () -> dueOnlyWhenFull("put", (x, v) -> x.put(v, 31, 1)));
        test("Promise 2: otherwise answers its number", () -> dueNumbers("put", (x, v) -> x.put(v, 31, 1)));
    }

    // ---- promise 3

    private static void remove() {
        test("Promise 3: makes a version with parent v in which the key is absent", () -> {
            for (int key : new int[] {0, 31}) {
                PersistentMap x = tree();
                due("remove", x.remove(6, key), 7);
                due("has(7, " + key + ")", x.has(7, key), 0);
                due("get(7, " + key + ")", x.get(7, key), 0);
                due("size(7)", x.size(7), 3);
                due("parent(7)", x.parent(7), 6);
            }
        });
        test("Promise 3: makes a version even if the key is absent already", () -> {
            PersistentMap x = tree();
            due("remove(6, 1)", x.remove(6, 1), 7);
            due("versions()", x.versions(), 8);
            due("differing(6, 7)", x.differing(6, 7), 0);
            due("remove(0, 0)", x.remove(0, 0), 8);
            due("size(8)", x.size(8), 0);
        });
        test("Promise 3: the last key, and a key with the value 0", () -> {
            PersistentMap x = tree();
            due("remove(5, 20)", x.remove(5, 20), 7);
            due("has(7, 20)", x.has(7, 20), 0);
            due("size(7)", x.size(7), 0);
            due("next(7, MIN)", x.next(7, MIN), -2);
            due("differing(0, 7)", x.differing(0, 7), 0);
        });
        test("Promise 3: -1 if v is not good", () -> dueForBadVersions("remove", (x, v) -> x.remove(v, 0), -1));
        test("Promise 3: -2 if key is not good", () -> dueForBadKeys("remove", (x, key) -> x.remove(0, key), -2));
        test("Promise 3: -3 if there are 40 versions", () -> dueOnlyWhenFull("remove", (x, v) -> x.remove(v, 31)));
        test("Promise 3: otherwise answers its number", () -> dueNumbers("remove", (x, v) -> x.remove(v, 31)));
    }

    // ---- promise 4

    private static void fillVersions() {
        test("Promise 4: the keys first .. first + count - 1 have the values, for every good plan", () -> {
            for (int first = 0; first < 32; first++) {
                for (int count = 1; count <= 8 && first + count <= 32; count++) {
                    dueFilled(first, count);
                }
            }
        });
        test("Promise 4: a step of 0 and a value of 0", () -> {
            PersistentMap x = tree();
            due("fill(6, 8, 0, 0)", x.fill(6, 8, 0, 0), 7);
            for (int key = 0; key < 8; key++) {
                due("has(7, " + key + ")", x.has(7, key), 1);
                due("get(7, " + key + ")", x.get(7, key), 0);
            }
        });
        test("Promise 4: wrapping like ints", () -> {
            int[] ends = {MIN, MIN + 1, -1, 0, 1, MAX - 1, MAX, 1 << 30, 1 << 29};
            for (int value : ends) {
                for (int step : ends) {
                    dueWrapped(value, step);
                }
            }
        });
        test("Promise 4: -1 if v is not good", () -> dueForBadVersions("fill", (x, v) -> x.fill(v, 8, 1, 1), -1));
        test("Promise 4: -3 if there are 40 versions", () -> dueOnlyWhenFull("fill", (x, v) -> x.fill(v, 392, 1, 1)));
        test("Promise 4: otherwise answers its number", () -> dueNumbers("fill", (x, v) -> x.fill(v, 392, 1, 1)));
    }

    private static void dueFilled(int first, int count) {
        PersistentMap x = tree();
        int plan = 16 * first + count;
        due("fill(6, " + plan + ", -20, 9)", x.fill(6, plan, -20, 9), 7);
        for (int key = 0; key < 32; key++) {
            boolean inPlan = key >= first && key < first + count;
            due("has(7, " + key + ") of plan " + plan, x.has(7, key), inPlan ? 1 : x.has(6, key));
            due("get(7, " + key + ") of plan " + plan, x.get(7, key), inPlan ? -20 + 9 * (key - first) : x.get(6, key));
        }
    }

    private static void dueWrapped(int value, int step) {
        PersistentMap x = new PersistentMap();
        due("fill", x.fill(0, 16 * 24 + 8, value, step), 1);
        long exact = value;
        for (int key = 24; key < 32; key++) {
            due("get(1, " + key + ") of value " + value + " and step " + step, x.get(1, key), (int) exact);
            exact += step;
        }
    }

    private static void fillPlans() {
        OnKey fill = (x, plan) -> x.fill(0, plan, 1, 1);
        test("Promise 4: -2 unless first >= 0", () -> dueFirstTooSmall("fill", fill));
        test("Promise 4: -2 unless count is in 1 .. 8", () -> dueCountWrong("fill", fill));
        test("Promise 4: -2 unless first + count <= 32", () -> dueTooFar("fill", fill));
        test("Promise 4: plan is 16 * first + count", () -> duePlans("fill", fill));
    }

    private static void dueFirstTooSmall(String call, OnKey made) {
        PersistentMap x = new PersistentMap();
        for (int first : new int[] {-1, -2, -8, -31, -32, -33, -256, MIN / 16}) {
            for (int count = 1; count <= 8; count++) {
                due(call + " with first " + first + " and count " + count, made.ask(x, 16 * first + count), -2);
            }
        }
        due(call + " with first 0", made.ask(x, 1), 1);
    }

    private static void dueCountWrong(String call, OnKey made) {
        PersistentMap x = new PersistentMap();
        for (int first = 0; first < 24; first++) {
            due(call + " with first " + first + " and count 0", made.ask(x, 16 * first), -2);
            for (int count = 9; count <= 15 && first + count <= 32; count++) {
                due(call + " with first " + first + " and count " + count, made.ask(x, 16 * first + count), -2);
            }
        }
        due(call + " with count 1", made.ask(x, 1), 1);
        due(call + " with count 8", made.ask(x, 8), 2);
    }

    private static void dueTooFar(String call, OnKey made) {
        PersistentMap x = new PersistentMap();
        int number = 0;
        for (int count = 1; count <= 8; count++) {
            int most = 32 - count;
            number++;
            due(call + " with first " + most + " and count " + count, made.ask(x, 16 * most + count), number);
            for (int first : new int[] {most + 1, most + 2, 32, 64, 256, 4096, 1 << 26, MAX / 16}) {
                due(call + " with first " + first + " and count " + count, made.ask(x, 16 * first + count), -2);
            }
        }
    }

    private static void duePlans(String call, OnKey made) {
        for (int plan = -600; plan <= 1200; plan++) {
            boolean good = false;
            for (int first = 0; first < 32; first++) {
                for (int count = 1; count <= 8 && first + count <= 32; count++) {
                    good |= plan == 16 * first + count;
                }
            }
            due(call + " with plan " + plan, made.ask(new PersistentMap(), plan), good ? 1 : -2);
        }
        for (int far = 0; far <= 1200; far++) {
            due(call + " with plan MIN + " + far, made.ask(new PersistentMap(), MIN + far), -2);
            due(call + " with plan MAX - " + far, made.ask(new PersistentMap(), MAX - far), -2);
        }
    }

    // ---- promise 5

    private static void graftVersions() {
        test("Promise 5: the keys first .. first + count - 1 are as in version w, for every good plan", () -> {
            for (int first = 0; first < 32; first++) {
                for (int count = 1; count <= 8 && first + count <= 32; count++) {
                    dueGrafted(first, count);
                }
            }
        });
        test("Promise 5: with its values", () -> {
            PersistentMap x = tree();
            due("graft(0, 6, 392)", x.graft(0, 6, 392), 7);
            due("get(7, 31)", x.get(7, 31), 7);
            due("graft(6, 3, 49), from an older version", x.graft(6, 3, 49), 8);
            due("get(8, 3)", x.get(8, 3), 4);
            due("graft(0, 5, 321), a value of 0", x.graft(0, 5, 321), 9);
            due("has(9, 20)", x.has(9, 20), 1);
            due("get(9, 20)", x.get(9, 20), 0);
        });
        test("Promise 5: or absent", () -> {
            PersistentMap x = tree();
            due("graft(6, 0, 8)", x.graft(6, 0, 8), 7);
            due("has(7, 0)", x.has(7, 0), 0);
            due("get(7, 0)", x.get(7, 0), 0);
            due("has(7, 3)", x.has(7, 3), 0);
            due("get(7, 3)", x.get(7, 3), 0);
            due("size(7)", x.size(7), 2);
        });
        test("Promise 5: v and w the same version", () -> {
            PersistentMap x = tree();
            due("graft(6, 6, 8)", x.graft(6, 6, 8), 7);
            due("differing(6, 7)", x.differing(6, 7), 0);
            due("parent(7)", x.parent(7), 6);
            due("graft(0, 0, 8)", x.graft(0, 0, 8), 8);
            due("size(8)", x.size(8), 0);
        });
        test("Promise 5: -1 if v is not good", () -> dueForBadVersions("graft", (x, v) -> x.graft(v, 0, 8), -1));
        test("Promise 5: -1 if w is not good", () -> dueForBadVersions("graft from v", (x, w) -> x.graft(0, w, 8), -1));
        test("Promise 5: -1 if both are not good", () -> dueForBadVersions("graft", (x, v) -> x.graft(v, v, 8), -1));
        test("Promise 5: -3 if there are 40 versions", () -> dueOnlyWhenFull("graft", (x, v) -> x.graft(v, 38, 8)));
        test("Promise 5: otherwise answers its number", () -> dueNumbers("graft", (x, v) -> x.graft(v, 6, 392)));
    }

    /** From a version that has every other key into one that has every third. */
    private static void dueGrafted(int first, int count) {
        PersistentMap x = new PersistentMap();
        int thirds = 0;
        for (int key = 0; key < 32; key += 3) {
            thirds = x.put(thirds, key, 300 + key);
        }
        int halves = 0;
        for (int key = 0; key < 32; key += 2) {
            halves = x.put(halves, key, 200 + key);
        }
        int plan = 16 * first + count;
        int made = x.graft(thirds, halves, plan);
        due("graft with plan " + plan, made, halves + 1);
        for (int key = 0; key < 32; key++) {
            int as = key >= first && key < first + count ? halves : thirds;
            due("has of key " + key + " after plan " + plan, x.has(made, key), x.has(as, key));
            due("get of key " + key + " after plan " + plan, x.get(made, key), x.get(as, key));
        }
    }

    private static void graftPlans() {
        OnKey graft = (x, plan) -> x.graft(0, 0, plan);
        test("Promise 5: -2 unless first >= 0", () -> dueFirstTooSmall("graft", graft));
        test("Promise 5: -2 unless count is in 1 .. 8", () -> dueCountWrong("graft", graft));
        test("Promise 5: -2 unless first + count <= 32", () -> dueTooFar("graft", graft));
        test("Promise 5: plan is 16 * first + count", () -> duePlans("graft", graft));
    }

    // ---- promise 6

    private static void exchange() {
        test("Promise 6: what the keys a and b have is exchanged: two values", () -> {
            dueExchanged(6, 0, 31);
            dueExchanged(6, 31, 0);
            dueExchanged(6, 3, 10);
        });
        test("Promise 6: what the keys a and b have is exchanged: a value and nothing", () -> {
            dueExchanged(6, 3, 4);
            dueExchanged(6, 4, 3);
            dueExchanged(6, 30, 31);
            dueExchanged(5, 20, 0);
            dueExchanged(5, 31, 20);
        });
        test("Promise 6: what the keys a and b have is exchanged: nothing and nothing", () -> {
            dueExchanged(6, 1, 2);
            dueExchanged(0, 0, 31);
        });
        test("Promise 6: a and b the same key", () -> {
            dueExchanged(6, 31, 31);
            dueExchanged(6, 1, 1);
            dueExchanged(5, 20, 20);
        });
        test("Promise 6: -1 if v is not good", () -> dueForBadVersions("exchange", (x, v) -> x.exchange(v, 0, 1), -1));
        test("Promise 6: -2 if a is not good", () -> dueForBadKeys("exchange", (x, a) -> x.exchange(0, a, 1), -2));
        test("Promise 6: -2 if b is not good", () -> dueForBadKeys("exchange", (x, b) -> x.exchange(0, 1, b), -2));
        test("Promise 6: -2 if both are not good", () -> dueForBadKeys("exchange", (x, a) -> x.exchange(0, a, a), -2));
        test("Promise 6: -3 if there are 40 versions", () -> dueOnlyWhenFull("exchange", (x, v) -> x.exchange(v, 0, 31)));
        test("Promise 6: otherwise answers its number", () -> dueNumbers("exchange", (x, v) -> x.exchange(v, 0, 31)));
    }

    private static void dueExchanged(int v, int a, int b) {
        PersistentMap x = tree();
        due("exchange(" + v + ", " + a + ", " + b + ")", x.exchange(v, a, b), 7);
        due("parent(7)", x.parent(7), v);
        for (int key = 0; key < 32; key++) {
            int as = key == a ? b : key == b ? a : key;
            due("has(7, " + key + ") after exchange of " + a + " and " + b, x.has(7, key), x.has(v, as));
            due("get(7, " + key + ") after exchange of " + a + " and " + b, x.get(7, key), x.get(v, as));
        }
    }

    // ---- promises 7 and 8

    private static void versions() {
        test("Promise 7: how many versions there are, from 1 to 40", () -> {
            PersistentMap x = new PersistentMap();
            for (int n = 1; n < 40; n++) {
                due("versions()", x.versions(), n);
                x.put(0, 0, n);
            }
            due("versions()", x.versions(), 40);
            x.put(0, 0, 0);
            due("versions() after a refused put", x.versions(), 40);
        });
        test("Promise 7: how many versions there are, with none that was refused", () -> {
            PersistentMap x = new PersistentMap();
            x.put(1, 0, 0);
            x.put(0, 32, 0);
            x.remove(0, -1);
            x.fill(0, 0, 1, 1);
            x.graft(0, 1, 1);
            x.exchange(0, 0, 32);
            due("versions()", x.versions(), 1);
        });
    }

    private static void parent() {
        test("Promise 8: the parent of a version", () -> {
            PersistentMap x = tree();
            int[] parents = {0, 1, 1, 2, 0, 4};
            for (int v = 1; v < 7; v++) {
                due("parent(" + v + ")", x.parent(v), parents[v - 1]);
            }
            due("parent(39)", full().parent(39), 38);
        });
        test("Promise 8: -1 if v is not good", () -> dueForBadVersions("parent", (x, v) -> x.parent(v), -1));
        test("Promise 8: -2 for version 0", () -> {
            due("parent(0) of a new object", new PersistentMap().parent(0), -2);
            due("parent(0) with 7 versions", tree().parent(0), -2);
            due("parent(0) with 40 versions", full().parent(0), -2);
        });
    }

    // ---- promises 9 to 11

    private static void ancestor() {
        test("Promise 9: 1 if v is an ancestor of w", () -> {
            PersistentMap x = tree();
            int[][] pairs = {{0, 0}, {6, 6}, {0, 6}, {1, 6}, {2, 6}, {4, 6}, {0, 5}, {1, 3}};
            for (int[] pair : pairs) {
                due("ancestor(" + pair[0] + ", " + pair[1] + ")", x.ancestor(pair[0], pair[1]), 1);
            }
            due("ancestor(0, 39)", full().ancestor(0, 39), 1);
        });
        test("Promise 9: otherwise 0", () -> {
            PersistentMap x = tree();
            int[][] pairs = {{6, 0}, {1, 0}, {6, 4}, {3, 6}, {5, 6}, {2, 3}, {1, 5}, {4, 5}};
            for (int[] pair : pairs) {
                due("ancestor(" + pair[0] + ", " + pair[1] + ")", x.ancestor(pair[0], pair[1]), 0);
            }
            x.graft(5, 6, 8);
            due("ancestor(6, 7), only grafted from", x.ancestor(6, 7), 0);
            due("ancestor(39, 0)", full().ancestor(39, 0), 0);
        });
        test("Promise 9: -1 if v is not good", () -> dueForBadVersions("ancestor", (x, v) -> x.ancestor(v, 0), -1));
        test("Promise 9: -1 if w is not good", () -> dueForBadVersions("ancestor of", (x, w) -> x.ancestor(0, w), -1));
        test("Promise 9: -1 if both are not good", () -> dueForBadVersions("ancestor", (x, v) -> x.ancestor(v, v), -1));
    }

    private static void meet() {
        test("Promise 10: the greatest number of a common ancestor", () -> {
            PersistentMap x = tree();
            int[][] rows = {{6, 3, 1}, {3, 6, 1}, {2, 3, 1}, {4, 3, 1}, {1, 3, 1}, {6, 2, 2}, {4, 6, 4}};
            for (int[] row : rows) {
                due("meet(" + row[0] + ", " + row[1] + ")", x.meet(row[0], row[1]), row[2]);
            }
        });
        test("Promise 10: a version and itself", () -> {
            PersistentMap x = full();
            for (int v = 0; v < 40; v++) {
                due("meet(" + v + ", " + v + ")", x.meet(v, v), v);
            }
        });
        test("Promise 10: a version and its ancestor", () -> {
            PersistentMap x = full();
            for (int v = 0; v < 40; v++) {
                due("meet(" + v + ", 39)", x.meet(v, 39), v);
                due("meet(39, " + v + ")", x.meet(39, v), v);
            }
        });
        test("Promise 10: no common ancestor but version 0", () -> {
            PersistentMap x = tree();
            for (int v : new int[] {0, 1, 2, 3, 4, 6}) {
                due("meet(" + v + ", 5)", x.meet(v, 5), 0);
                due("meet(5, " + v + ")", x.meet(5, v), 0);
            }
        });
        test("Promise 10: -1 if v is not good", () -> dueForBadVersions("meet", (x, v) -> x.meet(v, 0), -1));
        test("Promise 10: -1 if w is not good", () -> dueForBadVersions("meet with", (x, w) -> x.meet(0, w), -1));
        test("Promise 10: -1 if both are not good", () -> dueForBadVersions("meet", (x, v) -> x.meet(v, v), -1));
    }

    private static void family() {
        test("Promise 11: how many versions have v as an ancestor", () -> {
            PersistentMap x = tree();
            int[] families = {7, 5, 3, 1, 2, 1, 1};
            for (int v = 0; v < 7; v++) {
                due("family(" + v + ")", x.family(v), families[v]);
            }
        });
        test("Promise 11: v included", () -> {
            due("family(0) of a new object", new PersistentMap().family(0), 1);
            PersistentMap x = full();
            for (int v = 0; v < 40; v++) {
                due("family(" + v + ") with 40 versions", x.family(v), 40 - v);
            }
        });
        test("Promise 11: -1 if v is not good", () -> dueForBadVersions("family", (x, v) -> x.family(v), -1));
    }

    // ---- promises 12 to 14

    private static void has() {
        test("Promise 12: 1 if the key is there in the version", () -> {
            PersistentMap x = tree();
            for (int key : new int[] {0, 3, 10, 31}) {
                due("has(6, " + key + ")", x.has(6, key), 1);
            }
            due("has(5, 20), a value of 0", x.has(5, 20), 1);
        });
        test("Promise 12: otherwise 0", () -> {
            PersistentMap x = tree();
            for (int key = 0; key < 32; key++) {
                due("has(0, " + key + ")", x.has(0, key), 0);
            }
            for (int key : new int[] {1, 2, 4, 9, 11, 20, 30}) {
                due("has(6, " + key + ")", x.has(6, key), 0);
            }
        });
        test("Promise 12: -1 if v is not good", () -> dueForBadVersions("has", (x, v) -> x.has(v, 0), -1));
        test("Promise 12: -2 if key is not good", () -> {
            dueForBadKeys("has of version 0", (x, key) -> x.has(0, key), -2);
            PersistentMap x = full();
            for (int key : BAD_KEYS) {
                due("has(39, " + key + ")", x.has(39, key), -2);
            }
        });
    }

    private static void get() {
        test("Promise 13: the value of the key in the version", () -> {
            PersistentMap x = tree();
            due("get(6, 0)", x.get(6, 0), 5);
            due("get(6, 3)", x.get(6, 3), -3);
            due("get(6, 31)", x.get(6, 31), 7);
            due("get(3, 3)", x.get(3, 3), 4);
            x.put(6, 31, MIN);
            x.put(6, 31, MAX);
            due("get(7, 31)", x.get(7, 31), MIN);
            due("get(8, 31)", x.get(8, 31), MAX);
        });
        test("Promise 13: 0 if v is not good", () -> {
            dueForBadVersions("get of key 0", (x, v) -> x.get(v, 0), 0);
            dueForBadVersions("get of key 31", (x, v) -> x.get(v, 31), 0);
        });
        test("Promise 13: 0 if key is not good", () -> {
            dueForBadKeys("get of version 0", (x, key) -> x.get(0, key), 0);
            PersistentMap x = full();
            for (int v = 30; v < 40; v++) {
                for (int key : BAD_KEYS) {
                    due("get(" + v + ", " + key + ")", x.get(v, key), 0);
                }
            }
        });
        test("Promise 13: 0 if v and key are not good", () -> {
            PersistentMap x = full();
            for (int v : badVersions(40)) {
                for (int key : BAD_KEYS) {
                    due("get(" + v + ", " + key + ")", x.get(v, key), 0);
                }
            }
        });
        test("Promise 13: 0 if the key is absent", () -> {
            PersistentMap x = tree();
            due("get(6, 1), never there", x.get(6, 1), 0);
            x.remove(6, 0);
            due("get(7, 0), removed", x.get(7, 0), 0);
            x.graft(6, 0, 8);
            due("get(8, 3), grafted away", x.get(8, 3), 0);
            x.exchange(6, 31, 30);
            due("get(9, 31), exchanged away", x.get(9, 31), 0);
        });
    }

    private static void size() {
        test("Promise 14: how many keys a version has, from 0 to 32", () -> {
            PersistentMap x = full();
            for (int v = 0; v < 40; v++) {
                due("size(" + v + ")", x.size(v), v < 32 ? v : 32);
            }
        });
        test("Promise 14: a key with the value 0 counts", () -> due("size(5)", tree().size(5), 1));
        test("Promise 14: -1 if v is not good", () -> dueForBadVersions("size", (x, v) -> x.size(v), -1));
    }

    // ---- promises 15 to 17

    private static void next() {
        test("Promise 15: the least key of the version that is at least from", () -> {
            PersistentMap x = tree();
            int[][] rows = {{0, 0}, {1, 3}, {2, 3}, {3, 3}, {4, 10}, {10, 10}, {11, 31}, {30, 31}, {31, 31}};
            for (int[] row : rows) {
                due("next(6, " + row[0] + ")", x.next(6, row[0]), row[1]);
            }
            due("next(5, 20), a value of 0", x.next(5, 20), 20);
        });
        test("Promise 15: from may be any int: too small", () -> {
            PersistentMap x = tree();
            for (int from : new int[] {-1, -2, -32, -WRAPS, MIN + 1, MIN}) {
                due("next(6, " + from + ")", x.next(6, from), 0);
                due("next(5, " + from + ")", x.next(5, from), 20);
            }
        });
        test("Promise 15: from may be any int: too large", () -> {
            PersistentMap x = tree();
            for (int from : new int[] {32, 33, 64, WRAPS, MAX - 1, MAX}) {
                due("next(5, " + from + ")", x.next(5, from), -2);
                due("next(6, " + from + ")", x.next(6, from), -2);
            }
        });
        test("Promise 15: -1 if v is not good", () -> {
            dueForBadVersions("next from 0", (x, v) -> x.next(v, 0), -1);
            dueForBadVersions("next from MAX", (x, v) -> x.next(v, MAX), -1);
        });
        test("Promise 15: -2 if there is none", () -> {
            PersistentMap x = tree();
            due("next(5, 21)", x.next(5, 21), -2);
            due("next(5, 31)", x.next(5, 31), -2);
            due("next(0, 0), no keys", x.next(0, 0), -2);
            due("next(0, MIN), no keys", x.next(0, MIN), -2);
        });
    }

    private static void previous() {
        test("Promise 16: the greatest key of the version that is at most to", () -> {
            PersistentMap x = tree();
            int[][] rows = {{31, 31}, {30, 10}, {11, 10}, {10, 10}, {9, 3}, {3, 3}, {2, 0}, {1, 0}, {0, 0}};
            for (int[] row : rows) {
                due("previous(6, " + row[0] + ")", x.previous(6, row[0]), row[1]);
            }
            due("previous(5, 20), a value of 0", x.previous(5, 20), 20);
        });
        test("Promise 16: to may be any int: too large", () -> {
            PersistentMap x = tree();
            for (int to : new int[] {32, 33, 64, WRAPS, MAX - 1, MAX}) {
                due("previous(6, " + to + ")", x.previous(6, to), 31);
                due("previous(5, " + to + ")", x.previous(5, to), 20);
            }
        });
        test("Promise 16: to may be any int: too small", () -> {
            PersistentMap x = tree();
            for (int to : new int[] {-1, -2, -32, -WRAPS, MIN + 1, MIN}) {
                due("previous(5, " + to + ")", x.previous(5, to), -2);
                due("previous(6, " + to + ")", x.previous(6, to), -2);
            }
        });
        test("Promise 16: -1 if v is not good", () -> {
            dueForBadVersions("previous to 31", (x, v) -> x.previous(v, 31), -1);
            dueForBadVersions("previous to MIN", (x, v) -> x.previous(v, MIN), -1);
        });
        test("Promise 16: -2 if there is none", () -> {
            PersistentMap x = tree();
            due("previous(5, 19)", x.previous(5, 19), -2);
            due("previous(5, 0)", x.previous(5, 0), -2);
            due("previous(0, 31), no keys", x.previous(0, 31), -2);
            due("previous(0, MAX), no keys", x.previous(0, MAX), -2);
        });
    }

    private static void select() {
        test("Promise 17: the k-th least key of the version", () -> {
            PersistentMap x = full();
            for (int k = 0; k < 32; k++) {
                due("select(39, " + k + ")", x.select(39, k), k);
            }
            PersistentMap y = tree();
            due("select(6, 1)", y.select(6, 1), 3);
            due("select(6, 3), the last", y.select(6, 3), 31);
        });
        test("Promise 17: 0 for the least", () -> {
            due("select(6, 0)", tree().select(6, 0), 0);
            due("select(5, 0), a value of 0", tree().select(5, 0), 20);
        });
        test("Promise 17: -1 if v is not good", () -> {
            dueForBadVersions("select of 0", (x, v) -> x.select(v, 0), -1);
            dueForBadVersions("select of -1", (x, v) -> x.select(v, -1), -1);
        });
        test("Promise 17: -2 if there is no such one: k too large", () -> {
            PersistentMap x = tree();
            for (int k : new int[] {4, 5, 31, 32, 40, WRAPS, MAX}) {
                due("select(6, " + k + ")", x.select(6, k), -2);
            }
            due("select(5, 1)", x.select(5, 1), -2);
            due("select(39, 32), all keys there", full().select(39, 32), -2);
        });
        test("Promise 17: -2 if there is no such one: k too small", () -> {
            PersistentMap x = tree();
            for (int k : new int[] {-1, -2, -4, -32, MIN + 1, MIN}) {
                due("select(6, " + k + ")", x.select(6, k), -2);
            }
        });
        test("Promise 17: -2 if there is no such one: no keys", () -> {
            for (int k : new int[] {MIN, -1, 0, 1, MAX}) {
                due("select(0, " + k + ")", tree().select(0, k), -2);
            }
        });
    }

    // ---- promise 18

    private static void sum() {
        test("Promise 18: the sum of the values of all keys first .. last, both included", () -> {
            PersistentMap x = tree();
            int[][] rows = {
                {0, 31, 109}, {0, 0, 5}, {31, 31, 7}, {1, 2, 0}, {0, 3, 2}, {1, 3, -3}, {3, 10, 97}, {4, 30, 100}, {1, 31, 104}, {0, 30, 102}
            };
            for (int[] row : rows) {
                due("sum(6, " + row[0] + ", " + row[1] + ")", x.sum(6, row[0], row[1]), row[2]);
            }
        });
        test("Promise 18: wrapping like an int", () -> {
            PersistentMap x = new PersistentMap();
            x.put(0, 0, MAX);
            x.put(1, 31, 1);
            x.put(1, 31, MAX);
            x.put(0, 0, MIN);
            x.put(4, 31, -1);
            x.put(4, 31, MIN);
            due("MAX + 1", x.sum(2, 0, 31), MIN);
            due("MAX + MAX", x.sum(3, 0, 31), -2);
            due("MIN - 1", x.sum(5, 0, 31), MAX);
            due("MIN + MIN", x.sum(6, 0, 31), 0);
        });
        test("Promise 18: 0 if v is not good", () -> {
            dueForBadVersions("sum of 0 .. 31", (x, v) -> x.sum(v, 0, 31), 0);
            dueForBadVersions("sum of MIN .. MAX", (x, v) -> x.sum(v, MIN, MAX), 0);
        });
        test("Promise 18: first and last may be any ints: beyond all keys", () -> {
            PersistentMap x = tree();
            int[][] rows = {{MIN, MAX, 109}, {-1, 32, 109}, {MIN, 0, 5}, {-1, 9, 2}, {31, MAX, 7}, {11, 32, 7}, {MIN, 30, 102}, {1, MAX, 104}};
            for (int[] row : rows) {
                due("sum(6, " + row[0] + ", " + row[1] + ")", x.sum(6, row[0], row[1]), row[2]);
            }
        });
        test("Promise 18: first and last may be any ints: beside all keys", () -> {
            PersistentMap x = tree();
            int[][] rows = {{MIN, -1}, {-32, -1}, {-1, -1}, {MIN, MIN}, {32, 32}, {32, 63}, {32, MAX}, {MAX, MAX}};
            for (int[] row : rows) {
                for (int v : new int[] {1, 4, 5, 6}) {
                    due("sum(" + v + ", " + row[0] + ", " + row[1] + ")", x.sum(v, row[0], row[1]), 0);
                }
            }
        });
        test("Promise 18: first and last may be any ints: first above last", () -> {
            PersistentMap x = tree();
            int[][] rows = {{MAX, MIN}, {31, 0}, {10, 3}, {1, 0}, {4, 3}, {0, -1}, {32, 31}, {32, -1}};
            for (int[] row : rows) {
                due("sum(6, " + row[0] + ", " + row[1] + ")", x.sum(6, row[0], row[1]), 0);
            }
        });
        test("Promise 18: no keys", () -> due("sum(0, MIN, MAX)", tree().sum(0, MIN, MAX), 0));
    }

    // ---- promises 19 to 21

    private static void differing() {
        test("Promise 19: there in just one", () -> {
            PersistentMap x = tree();
            due("differing(0, 6)", x.differing(0, 6), 4);
            due("differing(6, 0)", x.differing(6, 0), 4);
            due("differing(5, 6)", x.differing(5, 6), 5);
            due("differing(0, 5), a value of 0", x.differing(0, 5), 1);
            due("differing(5, 0), a value of 0", x.differing(5, 0), 1);
        });
        test("Promise 19: or with different values", () -> {
            PersistentMap x = tree();
            due("differing(2, 3)", x.differing(2, 3), 1);
            due("differing(3, 2)", x.differing(3, 2), 1);
            x.put(1, 0, 6);
            due("differing(1, 7)", x.differing(1, 7), 1);
            x.put(1, 0, 5 + MIN);
            due("differing(1, 8)", x.differing(1, 8), 1);
        });
        test("Promise 19: on how many keys, from 0 to 32", () -> {
            PersistentMap x = full();
            for (int v = 0; v < 40; v++) {
                due("differing(0, " + v + ")", x.differing(0, v), v < 32 ? v : 32);
            }
            due("differing(31, 39)", x.differing(31, 39), 8);
        });
        test("Promise 19: two versions that agree on all keys", () -> {
            PersistentMap x = tree();
            for (int v = 0; v < 7; v++) {
                due("differing(" + v + ", " + v + ")", x.differing(v, v), 0);
            }
            x.remove(6, 31);
            due("differing(4, 7), put and removed", x.differing(4, 7), 0);
            x.put(1, 3, -3);
            due("differing(2, 8), made alike", x.differing(2, 8), 0);
        });
        test("Promise 19: -1 if v is not good", () -> dueForBadVersions("differing", (x, v) -> x.differing(v, 0), -1));
        test("Promise 19: -1 if w is not good", () -> dueForBadVersions("differing with", (x, w) -> x.differing(0, w), -1));
        test("Promise 19: -1 if both are not good", () -> dueForBadVersions("differing", (x, v) -> x.differing(v, v), -1));
    }

    private static void spread() {
        test("Promise 20: in how many versions the key is there", () -> {
            PersistentMap x = tree();
            int[][] rows = {{0, 5}, {3, 4}, {10, 2}, {31, 1}, {1, 0}};
            for (int[] row : rows) {
                due("spread(" + row[0] + ")", x.spread(row[0]), row[1]);
            }
            due("spread(20), a value of 0", x.spread(20), 1);
            x.remove(6, 3);
            due("spread(3), not in the version it is removed from", x.spread(3), 4);
        });
        test("Promise 20: in how many versions the key is there, from 0 to 39", () -> {
            PersistentMap x = full();
            for (int key = 1; key < 32; key++) {
                due("spread(" + key + ")", x.spread(key), 40 - key);
            }
            due("spread(0), put last at version 32", x.spread(0), 8);
            PersistentMap y = new PersistentMap();
            due("spread(31) of a new object", y.spread(31), 0);
        });
        test("Promise 20: -1 if key is not good", () -> dueForBadKeys("spread", (x, key) -> x.spread(key), -1));
    }

    private static void changes() {
        test("Promise 21: how many versions do not agree with their parent on the key", () -> {
            PersistentMap x = tree();
            int[][] rows = {{0, 1}, {3, 2}, {10, 1}, {31, 1}, {1, 0}};
            for (int[] row : rows) {
                due("changes(" + row[0] + ")", x.changes(row[0]), row[1]);
            }
            due("changes(20), from absent to a value of 0", x.changes(20), 1);
            x.remove(5, 20);
            due("changes(20), from a value of 0 to absent", x.changes(20), 2);
        });
        test("Promise 21: a version made alike does not count", () -> {
            PersistentMap x = tree();
            x.put(6, 3, -3);
            x.remove(6, 1);
            x.fill(6, 49, -3, 1);
            x.graft(6, 6, 8);
            x.exchange(6, 3, 3);
            x.exchange(6, 1, 2);
            due("changes(3)", x.changes(3), 2);
            due("changes(1)", x.changes(1), 0);
            due("changes(2)", x.changes(2), 0);
        });
        test("Promise 21: it is the parent that counts, not the version made before", () -> {
            PersistentMap x = new PersistentMap();
            x.put(0, 4, 1);
            x.put(0, 5, 1);
            x.put(1, 6, 1);
            due("changes(4)", x.changes(4), 1);
            x.put(3, 4, 2);
            x.put(3, 4, 2);
            due("changes(4)", x.changes(4), 3);
        });
        test("Promise 21: versions other than 0", () -> {
            PersistentMap x = new PersistentMap();
            due("changes(0) of a new object", x.changes(0), 0);
            for (int i = 1; i < 40; i++) {
                x.put(i - 1, 31, i);
            }
            due("changes(31), all but version 0", x.changes(31), 39);
            due("changes(0)", x.changes(0), 0);
        });
        test("Promise 21: -1 if key is not good", () -> dueForBadKeys("changes", (x, key) -> x.changes(key), -1));
    }
}
