import java.math.BigInteger;
import java.util.ArrayDeque;
import java.util.ArrayList;
import java.util.Arrays;
import java.util.HashMap;
import java.util.List;
import java.util.Map;
import java.util.Random;
import java.util.TreeMap;
import java.util.TreeSet;

/**
 * Long runs of calls, made from fixed seeds, held against a model that follows the document's words:
 * it writes down for each key only the one above it, and works all else out anew each time.
 */
public final class ModelTest {
    private static final String THROWN = "throws NoSuchElementException";
    private static final int RUNS = 210;
    private static final int CHANGES = 300;

    private static int wrong = 0;

    public static void main(String[] args) {
        for (int run = 0; run < RUNS && wrong < 20; run++) {
            new SeededRun(run).go();
        }
        System.out.println(wrong == 0 ? "the class and the model agree" : wrong + " answers are not the model's");
        if (wrong != 0) {
            System.exit(1);
        }
    }

    /** One run: the same calls go to the class and to the model. */
    private static final class SeededRun {
        final int number;
        final Random random;
        final int keys;
        final int firstKind;
        final int kinds;
        final int growth;
        final Real real = new Real();
        final Model model = new Model();

        SeededRun(int number) {
            this.number = number;
            random = new Random(9000 + number);
            keys = new int[] {8, 20, 64}[number % 3];
            firstKind = number % 6;
            kinds = number % 7 == 0 ? 6 : 1;
            growth = 1 + number % 4;
        }

        void go() {
            int ownWrong = wrong;
            for (int i = 0; i < CHANGES && wrong == ownWrong; i++) {
                change();
                compareTree(random.nextInt(8));
            }
            for (int tree = 0; tree < 8; tree++) {
                compareTree(tree);
            }
        }

        int someTree() {
            int chance = random.nextInt(40);
            if (chance == 0) {
                return random.nextInt(12) - 2;
            }
            return chance < 25 ? 0 : random.nextInt(Math.max(1, model.trees.size()));
        }

        int someKey() {
            return random.nextInt(60) == 0 ? random.nextInt(80) - 8 : random.nextInt(keys);
        }

        int someKind() {
            return random.nextInt(30) == 0 ? random.nextInt(10) - 2 : (firstKind + random.nextInt(kinds)) % 6;
        }

        void change() {
            int tree = someTree();
            int key = someKey();
            int chance = random.nextInt(30 + 5 * growth);
            if (chance == 0 || model.trees.isEmpty()) {
                int kind = someKind();
                changed(model.tree(kind), "tree", kind);
            } else if (chance == 1) {
                changed(model.split(tree, key), "split", tree, key);
            } else if (chance < 5) {
                int other = someTree();
                changed(model.join(tree, other), "join", tree, other);
            } else if (chance < 10) {
                joinNext(tree);
            } else if (chance < 16) {
                changed(model.remove(tree, key), "remove", tree, key);
            } else if (chance < 24) {
                changed(model.ask(tree, key), "ask", tree, key);
            } else if (chance == 24 && random.nextInt(6) == 0) {
                changed(model.clear(tree), "clear", tree);
            } else if (chance == 25 && random.nextInt(3) == 0) {
                changed(model.keep(tree), "keep", tree);
            } else {
                changed(model.add(tree, key), "add", tree, key);
            }
        }

        // A join of trees at random is mostly refused; this one is mostly done.
        void joinNext(int tree) {
            if (tree < 0 || tree >= model.trees.size()) {
                return;
            }
            ModelTree first = model.trees.get(tree);
            for (int other = 0; other < model.trees.size(); other++) {
                ModelTree second = model.trees.get(other);
                if (other != tree && second.kind == first.kind && second.above.isEmpty() && !first.above.isEmpty()) {
                    int key = first.above.lastKey() + 1 + random.nextInt(2);
                    changed(model.add(other, key), "add", other, key);
                    changed(model.join(tree, other), "join", tree, other);
                    return;
                }
            }
        }

        void compareTree(int tree) {
            for (int what = -1; what <= 9; what++) {
                told(model.count(tree, what), "count", tree, what);
            }
            for (int key = -1; key <= 64; key++) {
                compareKey(tree, key);
            }
            told(model.interleave(tree), "interleave", tree);
            told(model.sweep(tree), "sweep", tree);
            if (random.nextInt(10) == 0) {
                compareDear(tree);
            }
        }

        // Each exception takes its time, so a key that is not there is looked at but once.
        void compareKey(int tree, int key) {
            if (model.of(tree) == null || !model.of(tree).above.containsKey(key)) {
                int what = random.nextInt(5);
                told(THROWN, "look", tree, key, what);
                return;
            }
            for (int what = -1; what <= 5; what++) {
                told(model.look(tree, key, what), "look", tree, key, what);
            }
        }

        void compareDear(int tree) {
            for (int what = -1; what <= 2; what++) {
                told(model.best(tree, what), "best", tree, what);
            }
            int b = random.nextInt(20) - 1;
            for (int key = -1; key <= 64; key++) {
                told(model.pages(tree, b, key), "pages", tree, b, key);
                int k = random.nextInt(23) - 1;
                told(model.kept(k, key), "kept", k, key);
            }
        }

        void changed(Object want, String name, int... arguments) {
            same(want, real.change(name, arguments), name, arguments);
        }

        void told(Object want, String name, int... arguments) {
            same(want, real.answer(name, arguments), name, arguments);
        }

        void same(Object want, String got, String name, int... arguments) {
            if (!got.equals(want.toString())) {
                wrong++;
                System.out.println("run " + number + ": " + name + Arrays.toString(arguments) + " answered " + got
                    + ", the model answers " + want);
            }
        }
    }

    /** The class within its 512 calls: when they are used up, a new object goes through the same changes. */
    private static final class Real {
        private static final int MOST_CALLS = 512;

        private record Change(String name, int[] arguments) {
        }

        private final List<Change> changes = new ArrayList<>();
        private TurningTrees trees = new TurningTrees();
        private int calls = 0;

        String change(String name, int... arguments) {
            String answer = answer(name, arguments);
            changes.add(new Change(name, arguments));
            if (changes.size() >= MOST_CALLS) {
                throw new IllegalStateException("a run of " + MOST_CALLS + " changes leaves no call to look at them");
            }
            return answer;
        }

        String answer(String name, int... arguments) {
            if (calls == MOST_CALLS) {
                trees = new TurningTrees();
                calls = 0;
                for (Change change : changes) {
                    call(change.name, change.arguments);
                }
            }
            return call(name, arguments);
        }

        private String call(String name, int... arguments) {
            calls++;
            return Run.answer(trees, name, arguments);
        }
    }

    private static boolean isKey(int key) {
        return key >= 0 && key <= 63;
    }

    private static int weight(int key) {
        return (37 * key + 11) % 64;
    }

    /** A tree as a map from each key to the one above it. */
    private static final class ModelTree {
        final int kind;
        final TreeMap<Integer, Integer> above = new TreeMap<>();
        final List<Integer> row = new ArrayList<>();
        int turns;
        int costs;
        int most;

        ModelTree(int kind) {
            this.kind = kind;
        }

        int root() {
            for (int key : above.keySet()) {
                if (above.get(key) == -1) {
                    return key;
                }
            }
            return -1;
        }

        int child(int key, boolean greater) {
            for (int other : above.keySet()) {
                if (above.get(other) == key && (other > key) == greater) {
                    return other;
                }
            }
            return -1;
        }

        List<Integer> way(int key) {
            List<Integer> way = new ArrayList<>();
            for (int at = key; at != -1; at = above.get(at)) {
                way.add(at);
            }
            return way;
        }

        int depth(int key) {
            return way(key).size();
        }

        TreeSet<Integer> under(int top) {
            TreeSet<Integer> all = new TreeSet<>();
            for (int key : above.keySet()) {
                if (isUnder(key, top)) {
                    all.add(key);
                }
            }
            return all;
        }

        boolean isUnder(int key, int top) {
            int at = key;
            while (at != -1 && at != top) {
                at = above.get(at);
            }
            return at == top;
        }

        int size(int key) {
            int size = 0;
            for (int other : above.keySet()) {
                size += key != -1 && isUnder(other, key) ? 1 : 0;
            }
            return size;
        }

        void turn(int key) {
            int upper = above.get(key);
            int inner = child(key, upper > key);
            above.put(key, above.get(upper));
            above.put(upper, key);
            if (inner != -1) {
                above.put(inner, upper);
            }
            turns++;
        }

        List<Integer> goneThrough(int key) {
            List<Integer> gone = new ArrayList<>();
            for (int at = root(); at != -1; at = at == key ? -1 : child(at, key > at)) {
                gone.add(at);
            }
            return gone;
        }

        void act(int key) {
            if (kind == 1) {
                while (above.get(key) != -1) {
                    int upper = above.get(key);
                    int top = above.get(upper);
                    if (top == -1) {
                        turn(key);
                    } else if (child(upper, false) == key == (child(top, false) == upper)) {
                        turn(upper);
                        turn(key);
                    } else {
                        turn(key);
                        turn(key);
                    }
                }
            } else if (kind == 2 && above.get(key) != -1) {
                turn(key);
            } else if (kind == 3) {
                while (above.get(key) != -1) {
                    turn(key);
                }
            }
        }

        void actInAdd(int key) {
            if (kind == 4) {
                most = Math.max(most, above.size());
                int d = depth(key);
                BigInteger threes = BigInteger.valueOf(3).pow(d - 1);
                BigInteger twos = BigInteger.TWO.pow(d - 1).multiply(BigInteger.valueOf(above.size()));
                if (threes.compareTo(twos) > 0) {
                    balance(key);
                }
            } else if (kind == 5) {
                while (above.get(key) != -1 && weight(key) > weight(above.get(key))) {
                    turn(key);
                }
            } else {
                act(key);
            }
        }

        void balance(int key) {
            for (int x = above.get(key); x != -1; x = above.get(x)) {
                if (3 * size(child(x, false)) > 2 * size(x) || 3 * size(child(x, true)) > 2 * size(x)) {
                    makeEven(x);
                    return;
                }
            }
            throw new AssertionError("no lopsided key above " + key);
        }

        void makeEven(int top) {
            boolean all = top == root();
            hangEven(new ArrayList<>(under(top)), above.get(top));
            if (all) {
                most = above.size();
            }
        }

        void hangEven(List<Integer> keys, int upper) {
            if (keys.isEmpty()) {
                return;
            }
            int middle = keys.size() % 2 == 0 ? keys.size() / 2 - 1 : keys.size() / 2;
            int key = keys.get(middle);
            above.put(key, upper);
            hangEven(keys.subList(0, middle), key);
            hangEven(keys.subList(middle + 1, keys.size()), key);
        }

        int add(int key) {
            List<Integer> gone = goneThrough(key);
            above.put(key, gone.isEmpty() ? -1 : gone.get(gone.size() - 1));
            actInAdd(key);
            return gone.size();
        }

        int ask(int key) {
            List<Integer> gone = goneThrough(key);
            if (row.size() < 100) {
                row.add(key);
            }
            costs += gone.size();
            if (!gone.isEmpty()) {
                act(gone.get(gone.size() - 1));
            }
            return above.containsKey(key) ? gone.size() : -gone.size();
        }

        int remove(int key) {
            List<Integer> gone = goneThrough(key);
            if (!above.containsKey(key)) {
                if (!gone.isEmpty()) {
                    act(gone.get(gone.size() - 1));
                }
                return -gone.size();
            }
            while (size(key) > 1) {
                turn(turnedOnRemove(key));
            }
            int upper = above.remove(key);
            if (upper != -1) {
                act(upper);
            }
            if (kind == 4 && 3 * above.size() < 2 * most) {
                hangEven(new ArrayList<>(above.keySet()), -1);
                most = above.size();
            }
            return gone.size();
        }

        int turnedOnRemove(int key) {
            int left = child(key, false);
            int right = child(key, true);
            boolean leftGoes = kind == 5
                ? left != -1 && right != -1 && weight(left) > weight(right)
                : size(left) >= size(right);
            return right == -1 || leftGoes ? left : right;
        }

        /** All keys not below cut, with those above them that go with them, or all that are below. */
        Map<Integer, Integer> part(int cut, boolean upper) {
            Map<Integer, Integer> part = new HashMap<>();
            for (int key : above.keySet()) {
                if (key >= cut == upper) {
                    int at = above.get(key);
                    while (at != -1 && at >= cut != upper) {
                        at = above.get(at);
                    }
                    part.put(key, at);
                }
            }
            return part;
        }

        void join(ModelTree other) {
            if (kind == 5) {
                above.putAll(other.above);
                List<Integer> all = new ArrayList<>(above.keySet());
                hangByWeight(all, -1);
            } else if (above.isEmpty()) {
                above.putAll(other.above);
            } else if (!other.above.isEmpty()) {
                int greatest = above.lastKey();
                while (above.get(greatest) != -1) {
                    turn(greatest);
                }
                int otherRoot = other.root();
                above.putAll(other.above);
                above.put(otherRoot, greatest);
            }
            other.above.clear();
        }

        // Weights are all different, so there is but one tree with none above a heavier one's place.
        void hangByWeight(List<Integer> keys, int upper) {
            int heaviest = -1;
            for (int i = 0; i < keys.size(); i++) {
                if (heaviest == -1 || weight(keys.get(i)) > weight(keys.get(heaviest))) {
                    heaviest = i;
                }
            }
            if (heaviest != -1) {
                int key = keys.get(heaviest);
                above.put(key, upper);
                hangByWeight(keys.subList(0, heaviest), key);
                hangByWeight(keys.subList(heaviest + 1, keys.size()), key);
            }
        }

        int greatestDepth() {
            int greatest = 0;
            for (int key : above.keySet()) {
                greatest = Math.max(greatest, depth(key));
            }
            return greatest;
        }

        int potential() {
            int sum = 0;
            for (int key : above.keySet()) {
                int e = 0;
                while (1 << (e + 1) <= size(key)) {
                    e++;
                }
                sum += e;
            }
            return sum;
        }
    }

    /** The document's calls, by its words. */
    private static final class Model {
        final List<ModelTree> trees = new ArrayList<>();
        final List<Map<Integer, Integer>> kept = new ArrayList<>();

        ModelTree of(int tree) {
            return tree >= 0 && tree < trees.size() ? trees.get(tree) : null;
        }

        int tree(int kind) {
            if (kind < 0 || kind > 5 || trees.size() == 8) {
                return -1;
            }
            trees.add(new ModelTree(kind));
            return trees.size() - 1;
        }

        int add(int tree, int key) {
            ModelTree it = of(tree);
            return it == null || !isKey(key) || it.above.containsKey(key) ? -1 : it.add(key);
        }

        Object ask(int tree, int key) {
            return of(tree) == null || !isKey(key) ? THROWN : of(tree).ask(key);
        }

        Object remove(int tree, int key) {
            return of(tree) == null || !isKey(key) ? THROWN : of(tree).remove(key);
        }

        int split(int tree, int key) {
            ModelTree it = of(tree);
            if (it == null || !isKey(key) || trees.size() == 8) {
                return -1;
            }
            ModelTree more = new ModelTree(it.kind);
            Map<Integer, Integer> upper = it.part(key, true);
            Map<Integer, Integer> lower = it.part(key, false);
            more.above.putAll(upper);
            it.above.clear();
            it.above.putAll(lower);
            it.most = it.kind == 4 ? it.above.size() : 0;
            more.most = it.kind == 4 ? more.above.size() : 0;
            trees.add(more);
            return trees.size() - 1;
        }

        boolean join(int tree, int other) {
            ModelTree first = of(tree);
            ModelTree second = of(other);
            if (first == null || second == null || tree == other || first.kind != second.kind) {
                return false;
            }
            for (int low : first.above.keySet()) {
                for (int high : second.above.keySet()) {
                    if (low >= high) {
                        return false;
                    }
                }
            }
            first.join(second);
            first.most = first.kind == 4 ? first.above.size() : 0;
            second.most = 0;
            return true;
        }

        int clear(int tree) {
            if (of(tree) == null) {
                return -1;
            }
            int had = of(tree).row.size();
            of(tree).row.clear();
            return had;
        }

        Object look(int tree, int key, int what) {
            ModelTree it = of(tree);
            if (it == null || !it.above.containsKey(key) || what < 0 || what > 4) {
                return THROWN;
            }
            return what == 0 ? it.depth(key)
                : what == 1 ? it.above.get(key)
                : what == 2 ? it.child(key, false)
                : what == 3 ? it.child(key, true)
                : it.size(key);
        }

        int count(int tree, int what) {
            ModelTree it = of(tree);
            if (it == null || what < 0 || what > 8) {
                return -1;
            }
            int[] all = {it.kind, it.above.size(), it.root(), it.greatestDepth(), it.turns, it.costs, it.row.size(),
                it.potential(), it.kind == 4 ? it.most : 0};
            return all[what];
        }

        int best(int tree, int what) {
            ModelTree it = of(tree);
            if (it == null || what < 0 || what > 1) {
                return -1;
            }
            List<Integer> keys = new ArrayList<>(it.above.keySet());
            Map<Integer, Integer> asks = new HashMap<>();
            for (int key : it.row) {
                asks.merge(key, 1, Integer::sum);
            }
            Map<Integer, int[]> known = new HashMap<>();
            return bestOf(keys, asks, 0, keys.size(), known)[what];
        }

        int[] bestOf(List<Integer> keys, Map<Integer, Integer> asks, int from, int to, Map<Integer, int[]> known) {
            if (from == to) {
                return new int[] {0, -1};
            }
            int[] answer = known.get(from * 100 + to);
            if (answer != null) {
                return answer;
            }
            int all = 0;
            for (int i = from; i < to; i++) {
                all += asks.getOrDefault(keys.get(i), 0);
            }
            for (int i = to - 1; i >= from; i--) {
                int sum = all + bestOf(keys, asks, from, i, known)[0] + bestOf(keys, asks, i + 1, to, known)[0];
                if (answer == null || sum <= answer[0]) {
                    answer = new int[] {sum, keys.get(i)};
                }
            }
            known.put(from * 100 + to, answer);
            return answer;
        }

        int interleave(int tree) {
            return of(tree) == null ? -1 : changes(of(tree).row, 0, 63);
        }

        int changes(List<Integer> asks, int least, int greatest) {
            if (least == greatest) {
                return 0;
            }
            int lowerEnd = least + (greatest - least) / 2;
            List<Integer> lower = new ArrayList<>();
            List<Integer> upper = new ArrayList<>();
            int changes = 0;
            for (int i = 0; i < asks.size(); i++) {
                boolean low = asks.get(i) <= lowerEnd;
                (low ? lower : upper).add(asks.get(i));
                if (i > 0 && low != asks.get(i - 1) <= lowerEnd) {
                    changes++;
                }
            }
            return changes + changes(lower, least, lowerEnd) + changes(upper, lowerEnd + 1, greatest);
        }

        int sweep(int tree) {
            if (of(tree) == null) {
                return -1;
            }
            List<TreeSet<Integer>> touched = new ArrayList<>();
            touched.add(new TreeSet<>());
            int sum = 0;
            for (int x : of(tree).row) {
                TreeSet<Integer> now = new TreeSet<>();
                now.add(x);
                int m = latest(touched, x);
                for (int key = x - 1; key >= 0; key--) {
                    if (latest(touched, key) > m) {
                        now.add(key);
                        m = latest(touched, key);
                    }
                }
                m = latest(touched, x);
                for (int key = x + 1; key <= 63; key++) {
                    if (latest(touched, key) > m) {
                        now.add(key);
                        m = latest(touched, key);
                    }
                }
                touched.add(now);
                sum += now.size();
            }
            return sum;
        }

        int latest(List<TreeSet<Integer>> touched, int key) {
            for (int moment = touched.size() - 1; moment > 0; moment--) {
                if (touched.get(moment).contains(key)) {
                    return moment;
                }
            }
            return 0;
        }

        int pages(int tree, int b, int key) {
            ModelTree it = of(tree);
            if (it == null || b < 1 || b > 16 || !it.above.containsKey(key)) {
                return -1;
            }
            Map<Integer, Integer> pageOf = new HashMap<>();
            ArrayDeque<Integer> starts = new ArrayDeque<>();
            starts.add(it.root());
            for (int page = 0; !starts.isEmpty(); page++) {
                ArrayDeque<Integer> next = new ArrayDeque<>();
                next.add(starts.poll());
                for (int taken = 0; taken < b && !next.isEmpty(); taken++) {
                    int at = next.poll();
                    pageOf.put(at, page);
                    for (boolean greater : new boolean[] {false, true}) {
                        if (it.child(at, greater) != -1) {
                            next.add(it.child(at, greater));
                        }
                    }
                }
                starts.addAll(next);
            }
            TreeSet<Integer> onWay = new TreeSet<>();
            for (int at : it.way(key)) {
                onWay.add(pageOf.get(at));
            }
            return onWay.size();
        }

        int keep(int tree) {
            ModelTree it = of(tree);
            if (it == null || kept.size() == 20) {
                return -1;
            }
            Map<Integer, Integer> depths = new HashMap<>();
            for (int key : it.above.keySet()) {
                depths.put(key, it.depth(key));
            }
            kept.add(depths);
            return kept.size() - 1;
        }

        int kept(int k, int key) {
            return k < 0 || k >= kept.size() || !isKey(key) ? -1 : kept.get(k).getOrDefault(key, 0);
        }
    }
}
