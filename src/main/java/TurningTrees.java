import java.util.Arrays;
import java.util.NoSuchElementException;

/** Search trees of six kinds that change their shape by turns; README.md says how to use them. */
public final class TurningTrees {
    public static final int NONE = -1;

    private static final int KEYS = 64;
    private static final int MOST_TREES = 8;
    private static final int MOST_KEPT = 20;
    private static final int ROW_LENGTH = 100;
    private static final int MOST_ON_PAGE = 16;
    private static final int HALVINGS = 6;

    private static final int STILL = 0;
    private static final int SPLAY = 1;
    private static final int UP = 2;
    private static final int ROOT = 3;
    private static final int BALANCE = 4;
    private static final int HEAP = 5;

    private final Tree[] trees;
    private int treesMade;
    private final int[] keptDepths;
    private int keptMade;
    private final int[] marks;
    private final Page page;
    private final BestStill bestStill;

    public TurningTrees() {
        trees = new Tree[MOST_TREES];
        treesMade = 0;
        keptDepths = new int[MOST_KEPT * KEYS];
        keptMade = 0;
        marks = new int[KEYS];
        page = new Page();
        bestStill = new BestStill();
    }

    public int tree(int kind) {
        if (kind < STILL || kind > HEAP) {
            return NONE;
        }
        return newTree(kind);
    }

    public int add(int tree, int key) {
        Tree it = treeOf(tree);
        if (it == null || !isKey(key) || it.shape.holds(key)) {
            return NONE;
        }
        return it.takeIn(key);
    }

    public int ask(int tree, int key) throws NoSuchElementException {
        Tree it = treeOf(tree);
        if (it == null || !isKey(key)) {
            throw new NoSuchElementException("no such tree or key");
        }
        return it.seek(key);
    }

    public int remove(int tree, int key) throws NoSuchElementException {
        Tree it = treeOf(tree);
        if (it == null || !isKey(key)) {
            throw new NoSuchElementException("no such tree or key");
        }
        return it.giveUp(key);
    }

    public int split(int tree, int key) {
        Tree low = treeOf(tree);
        if (low == null || !isKey(key)) {
            return NONE;
        }
        int number = newTree(low.kind);
        Tree high = treeOf(number);
        if (high == null) {
            return NONE;
        }
        low.shape.cutAt(key, high.shape);
        low.beginMost();
        high.beginMost();
        return number;
    }

    public boolean join(int tree, int other) {
        Tree low = treeOf(tree);
        Tree high = treeOf(other);
        if (low == null || high == null || low == high || low.kind != high.kind) {
            return false;
        }
        if (!low.shape.isBelow(high.shape)) {
            return false;
        }
        low.takeOver(high);
        low.beginMost();
        high.beginMost();
        return true;
    }

    public int clear(int tree) {
        Tree it = treeOf(tree);
        return it == null ? NONE : it.row.wipe();
    }

    public int look(int tree, int key, int what) throws NoSuchElementException {
        Tree it = treeOf(tree);
        if (it == null || !it.shape.holds(key)) {
            throw new NoSuchElementException("no such tree, or the key is not in it");
        }
        switch (what) {
            case 0:
                return it.shape.depthOf(key);
            case 1:
                return it.shape.upOf(key);
            case 2:
                return it.shape.leftOf(key);
            case 3:
                return it.shape.rightOf(key);
            case 4:
                return it.shape.sizeOf(key);
            default:
                throw new NoSuchElementException("nothing such to look at");
        }
    }

    public int count(int tree, int what) {
        Tree it = treeOf(tree);
        if (it == null) {
            return NONE;
        }
        switch (what) {
            case 0:
                return it.kind;
            case 1:
                return it.shape.keysHeld();
            case 2:
                return it.shape.root;
            case 3:
                return it.shape.greatestDepth();
            case 4:
                return it.shape.turns;
            case 5:
                return it.costs;
            case 6:
                return it.row.length;
            case 7:
                return it.shape.potential();
            case 8:
                return it.most;
            default:
                return NONE;
        }
    }

    public int best(int tree, int what) {
        Tree it = treeOf(tree);
        if (it == null || what < 0 || what > 1) {
            return NONE;
        }
        bestStill.workOut(it.shape, it.row);
        return what == 0 ? bestStill.sum : bestStill.root;
    }

    public int interleave(int tree) {
        Tree it = treeOf(tree);
        return it == null ? NONE : it.row.changesOfHalf(marks);
    }

    public int sweep(int tree) {
        Tree it = treeOf(tree);
        return it == null ? NONE : it.row.touches(marks);
    }

    public int pages(int tree, int b, int key) {
        Tree it = treeOf(tree);
        if (it == null || b < 1 || b > MOST_ON_PAGE || !it.shape.holds(key)) {
            return NONE;
        }
        return page.countOnWay(it.shape, b, key);
    }

    public int keep(int tree) {
        Tree it = treeOf(tree);
        if (it == null || keptMade >= MOST_KEPT) {
            return NONE;
        }
        for (int key = 0; key < KEYS; key++) {
            put(keptDepths, keptMade * KEYS + key, it.shape.depthOf(key));
        }
        keptMade++;
        return keptMade - 1;
    }

    public int kept(int k, int key) {
        if (k < 0 || k >= keptMade || !isKey(key)) {
            return NONE;
        }
        return at(keptDepths, k * KEYS + key);
    }

    private int newTree(int kind) {
        if (treesMade < 0 || treesMade >= trees.length) {
            return NONE;
        }
        trees[treesMade] = new Tree(kind);
        treesMade++;
        return treesMade - 1;
    }

    private Tree treeOf(int number) {
        return number >= 0 && number < trees.length ? trees[number] : null;
    }

    private static boolean isKey(int key) {
        return key >= 0 && key < KEYS;
    }

    private static int weight(int key) {
        return (37 * key + 11) & (KEYS - 1);
    }

    // All rows are read and written through these two, so that no index can make the machine throw.
    private static int at(int[] row, int index) {
        return index >= 0 && index < row.length ? row[index] : NONE;
    }

    private static void put(int[] row, int index, int value) {
        if (index >= 0 && index < row.length) {
            row[index] = value;
        }
    }

    /** One tree with its kind, and what is counted of it. */
    private static final class Tree {
        final int kind;
        final Shape shape;
        final Row row;
        int costs;
        int most;

        Tree(int kind) {
            this.kind = kind;
            shape = new Shape();
            row = new Row();
            costs = 0;
            most = 0;
        }

        int takeIn(int key) {
            int last = shape.lastOnWay(key);
            int cost = shape.depthOf(last);
            shape.hangNew(key, last);
            if (kind == BALANCE) {
                most = Math.max(most, shape.keysHeld());
                if (isTooDeep(shape.depthOf(key), shape.keysHeld())) {
                    evenOut(lopsidedAbove(key));
                }
            } else if (kind == HEAP) {
                riseByWeight(key);
            } else {
                act(key);
            }
            return cost;
        }

        int seek(int key) {
            int last = shape.lastOnWay(key);
            int cost = shape.depthOf(last);
            costs += cost;
            row.write(key);
            act(last);
            return last == key ? cost : -cost;
        }

        int giveUp(int key) {
            int last = shape.lastOnWay(key);
            int cost = shape.depthOf(last);
            if (last != key) {
                act(last);
                return -cost;
            }
            sink(key);
            int above = shape.upOf(key);
            shape.takeOff(key);
            act(above);
            if (kind == BALANCE && 3 * shape.keysHeld() < 2 * most) {
                evenOut(shape.root);
            }
            return cost;
        }

        void takeOver(Tree other) {
            int low = shape.root;
            int high = other.shape.root;
            other.shape.moveKeys(0, shape);
            other.shape.root = NONE;
            if (low == NONE) {
                shape.hang(high, NONE);
            } else if (high != NONE && kind == HEAP) {
                mergeByWeight(low, high);
            } else if (high != NONE) {
                int greatest = shape.greatestUnder(low);
                raiseToRoot(greatest);
                shape.hang(high, greatest);
                shape.resizeUpFrom(greatest);
            }
        }

        void beginMost() {
            most = kind == BALANCE ? shape.keysHeld() : 0;
        }

        private void act(int key) {
            if (key == NONE) {
                return;
            }
            switch (kind) {
                case SPLAY:
                    splay(key);
                    break;
                case UP:
                    shape.turn(key);
                    break;
                case ROOT:
                    raiseToRoot(key);
                    break;
                default:
                    break;
            }
        }

        private void splay(int key) {
            for (int step = 0; step < KEYS && shape.upOf(key) != NONE; step++) {
                int above = shape.upOf(key);
                int top = shape.upOf(above);
                if (top == NONE) {
                    shape.turn(key);
                } else if ((key < above) == (above < top)) {
                    shape.turn(above);
                    shape.turn(key);
                } else {
                    shape.turn(key);
                    shape.turn(key);
                }
            }
        }

        private void raiseToRoot(int key) {
            for (int step = 0; step < KEYS && shape.upOf(key) != NONE; step++) {
                shape.turn(key);
            }
        }

        private void riseByWeight(int key) {
            for (int step = 0; step < KEYS; step++) {
                int above = shape.upOf(key);
                if (above == NONE || weight(key) <= weight(above)) {
                    return;
                }
                shape.turn(key);
            }
        }

        private int lopsidedAbove(int key) {
            int top = shape.upOf(key);
            for (int step = 0; step < KEYS && top != NONE; step++) {
                if (isLopsided(top)) {
                    return top;
                }
                top = shape.upOf(top);
            }
            return NONE;
        }

        // The most is counted anew only when nothing of the tree is left out.
        private void evenOut(int top) {
            boolean all = top == shape.root;
            shape.makeEven(top);
            if (all) {
                beginMost();
            }
        }

        // The quotient of the two powers only grows, so the first excess decides, long before a long runs over.
        private static boolean isTooDeep(int depth, int keys) {
            long threes = 1;
            long twos = keys;
            for (int step = 1; step < depth && step < KEYS; step++) {
                threes *= 3;
                twos *= 2;
                if (threes > twos) {
                    return true;
                }
            }
            return false;
        }

        private boolean isLopsided(int key) {
            int heavier = Math.max(shape.sizeOf(shape.leftOf(key)), shape.sizeOf(shape.rightOf(key)));
            return 3 * heavier > 2 * shape.sizeOf(key);
        }

        private void sink(int key) {
            for (int step = 0; step < KEYS && shape.sizeOf(key) > 1; step++) {
                shape.turn(childToTurn(key));
            }
        }

        private int childToTurn(int key) {
            int left = shape.leftOf(key);
            int right = shape.rightOf(key);
            if (right == NONE) {
                return left;
            }
            if (left == NONE) {
                return right;
            }
            if (kind == HEAP) {
                return weight(left) > weight(right) ? left : right;
            }
            return shape.sizeOf(left) >= shape.sizeOf(right) ? left : right;
        }

        private void mergeByWeight(int lowRoot, int highRoot) {
            int low = lowRoot;
            int high = highRoot;
            int above = NONE;
            for (int step = 0; step < 2 * KEYS && low != NONE && high != NONE; step++) {
                if (weight(low) > weight(high)) {
                    shape.hang(low, above);
                    above = low;
                    low = shape.rightOf(low);
                } else {
                    shape.hang(high, above);
                    above = high;
                    high = shape.leftOf(high);
                }
            }
            shape.hang(low == NONE ? high : low, above);
            shape.resizeUpFrom(above);
        }
    }

    /** Keys hung on keys: a link that leads nowhere is NONE, a key that is not there has size 0. */
    private static final class Shape {
        private final int[] left;
        private final int[] right;
        private final int[] up;
        private final int[] size;
        private final int[] order;
        int root;
        int turns;

        Shape() {
            left = new int[KEYS];
            right = new int[KEYS];
            up = new int[KEYS];
            size = new int[KEYS];
            order = new int[KEYS];
            Arrays.fill(left, NONE);
            Arrays.fill(right, NONE);
            Arrays.fill(up, NONE);
            root = NONE;
            turns = 0;
        }

        int leftOf(int key) {
            return at(left, key);
        }

        int rightOf(int key) {
            return at(right, key);
        }

        int upOf(int key) {
            return at(up, key);
        }

        int sizeOf(int key) {
            return key >= 0 && key < size.length ? size[key] : 0;
        }

        boolean holds(int key) {
            return sizeOf(key) > 0;
        }

        int keysHeld() {
            return sizeOf(root);
        }

        int depthOf(int key) {
            int depth = 0;
            int way = holds(key) ? key : NONE;
            while (depth < KEYS && way != NONE) {
                depth++;
                way = upOf(way);
            }
            return depth;
        }

        int greatestDepth() {
            int greatest = 0;
            for (int key = 0; key < KEYS; key++) {
                greatest = Math.max(greatest, depthOf(key));
            }
            return greatest;
        }

        int potential() {
            int sum = 0;
            for (int key = 0; key < KEYS; key++) {
                for (int half = sizeOf(key) / 2; half > 0; half /= 2) {
                    sum++;
                }
            }
            return sum;
        }

        // The depth of this key is the cost of the way, so no cost is told beside it.
        int lastOnWay(int key) {
            int last = root;
            for (int step = 0; step < KEYS && last != key; step++) {
                int next = key < last ? leftOf(last) : rightOf(last);
                if (next == NONE) {
                    return last;
                }
                last = next;
            }
            return last;
        }

        int leastUnder(int top) {
            int least = top;
            for (int step = 0; step < KEYS && leftOf(least) != NONE; step++) {
                least = leftOf(least);
            }
            return least;
        }

        int greatestUnder(int top) {
            int greatest = top;
            for (int step = 0; step < KEYS && rightOf(greatest) != NONE; step++) {
                greatest = rightOf(greatest);
            }
            return greatest;
        }

        boolean isBelow(Shape other) {
            if (root == NONE || other.root == NONE) {
                return true;
            }
            return greatestUnder(root) < other.leastUnder(other.root);
        }

        // The order of keys alone tells the side at which one hangs on another.
        void hang(int key, int above) {
            put(up, key, above);
            if (above == NONE) {
                root = key;
            } else if (key < above) {
                put(left, above, key);
            } else {
                put(right, above, key);
            }
        }

        private void hangLeft(int key, int above) {
            put(left, above, key);
            put(up, key, above);
        }

        private void hangRight(int key, int above) {
            put(right, above, key);
            put(up, key, above);
        }

        void hangNew(int key, int above) {
            hang(key, above);
            resizeUpFrom(key);
        }

        void takeOff(int key) {
            int above = upOf(key);
            if (above == NONE) {
                root = NONE;
            } else if (key < above) {
                put(left, above, NONE);
            } else {
                put(right, above, NONE);
            }
            forget(key);
            resizeUpFrom(above);
        }

        private void forget(int key) {
            put(left, key, NONE);
            put(right, key, NONE);
            put(up, key, NONE);
            put(size, key, 0);
        }

        private void resize(int key) {
            put(size, key, 1 + sizeOf(at(left, key)) + sizeOf(at(right, key)));
        }

        void resizeUpFrom(int key) {
            int way = key;
            for (int step = 0; step < KEYS && way != NONE; step++) {
                resize(way);
                way = upOf(way);
            }
        }

        void turn(int key) {
            int above = upOf(key);
            if (above == NONE) {
                return;
            }
            int top = upOf(above);
            if (key < above) {
                hangLeft(rightOf(key), above);
                hangRight(above, key);
            } else {
                hangRight(leftOf(key), above);
                hangLeft(above, key);
            }
            hang(key, top);
            resize(above);
            resize(key);
            turns++;
        }

        void makeEven(int top) {
            if (top == NONE) {
                return;
            }
            int above = upOf(top);
            int least = leastUnder(top);
            int greatest = greatestUnder(top);
            int found = 0;
            for (int key = 0; key < KEYS; key++) {
                if (holds(key) && key >= least && key <= greatest) {
                    put(order, found, key);
                    found++;
                }
            }
            hang(evenOf(this, 0, found - 1, 0), above);
        }

        private static int evenOf(Shape shape, int first, int last, int level) {
            if (first > last || level > HALVINGS) {
                return NONE;
            }
            int middle = (first + last) / 2;
            int key = at(shape.order, middle);
            shape.hangLeft(evenOf(shape, first, middle - 1, level + 1), key);
            shape.hangRight(evenOf(shape, middle + 1, last, level + 1), key);
            shape.resize(key);
            return key;
        }

        // Only the way to the cut has keys of both sides below it: the rest stays hung as it is.
        void cutAt(int cut, Shape more) {
            int way = root;
            int lowEnd = NONE;
            int highEnd = NONE;
            root = NONE;
            for (int step = 0; step < KEYS && way != NONE; step++) {
                int key = way;
                if (key < cut) {
                    way = rightOf(key);
                    hang(key, lowEnd);
                    lowEnd = key;
                } else {
                    way = leftOf(key);
                    more.root = highEnd == NONE ? key : more.root;
                    hangLeft(key, highEnd);
                    highEnd = key;
                }
            }
            put(right, lowEnd, NONE);
            put(left, highEnd, NONE);
            resizeUpFrom(lowEnd);
            resizeUpFrom(highEnd);
            moveKeys(cut, more);
        }

        void moveKeys(int from, Shape to) {
            for (int key = 0; key < KEYS; key++) {
                if (key >= from && holds(key)) {
                    put(to.left, key, leftOf(key));
                    put(to.right, key, rightOf(key));
                    put(to.up, key, upOf(key));
                    put(to.size, key, sizeOf(key));
                    forget(key);
                }
            }
        }
    }

    /** The keys of the latest asks of a tree, and the two bounds that are told of them. */
    private static final class Row {
        private final int[] keys;
        int length;

        Row() {
            keys = new int[ROW_LENGTH];
            length = 0;
        }

        void write(int key) {
            if (length < keys.length) {
                put(keys, length, key);
                length++;
            }
        }

        int wipe() {
            int had = length;
            length = 0;
            return had;
        }

        int keyAt(int index) {
            return at(keys, index);
        }

        int changesOfHalf(int[] latestHalf) {
            int changes = 0;
            for (int bit = 0; bit < HALVINGS; bit++) {
                Arrays.fill(latestHalf, NONE);
                changes += changesInSpans(bit, latestHalf);
            }
            return changes;
        }

        // The spans of one width are the keys' upper bits, the halves the bit below them.
        private int changesInSpans(int bit, int[] latestHalf) {
            int changes = 0;
            for (int i = 0; i < length; i++) {
                int half = keyAt(i) >> bit & 1;
                int span = keyAt(i) >> bit >> 1;
                int latest = at(latestHalf, span);
                if (latest != NONE && latest != half) {
                    changes++;
                }
                put(latestHalf, span, half);
            }
            return changes;
        }

        int touches(int[] latestMoment) {
            Arrays.fill(latestMoment, 0);
            int touched = 0;
            for (int i = 0; i < length; i++) {
                int key = keyAt(i);
                touched += 1 + touchesToSide(key, -1, i + 1, latestMoment);
                touched += touchesToSide(key, 1, i + 1, latestMoment);
                put(latestMoment, key, i + 1);
            }
            return touched;
        }

        private static int touchesToSide(int key, int side, int moment, int[] latestMoment) {
            int touched = 0;
            int bar = at(latestMoment, key);
            for (int away = 1; away < KEYS; away++) {
                int other = key + side * away;
                int latest = at(latestMoment, other);
                if (latest > bar) {
                    touched++;
                    bar = latest;
                    put(latestMoment, other, moment);
                }
            }
            return touched;
        }
    }

    /** The best tree that stands still, for the keys of a shape and the asks of a row. */
    private static final class BestStill {
        private static final int ENDS = KEYS + 1;

        private final int[] keys;
        private final int[] asks;
        private final int[] asksBefore;
        private final int[] least;
        private final int[] tops;
        int sum;
        int root;

        BestStill() {
            keys = new int[KEYS];
            asks = new int[KEYS];
            asksBefore = new int[ENDS];
            least = new int[ENDS * ENDS];
            tops = new int[KEYS];
            sum = 0;
            root = NONE;
        }

        void workOut(Shape shape, Row row) {
            countAsks(row);
            int found = gatherKeys(shape);
            for (int width = 1; width <= found && width <= KEYS; width++) {
                for (int from = 0; from + width <= found && from < KEYS; from++) {
                    settle(from, from + width);
                }
            }
            sum = at(least, found);
            root = found == 0 ? NONE : at(keys, at(tops, 0));
        }

        private void countAsks(Row row) {
            Arrays.fill(asks, 0);
            for (int i = 0; i < row.length; i++) {
                int key = row.keyAt(i);
                put(asks, key, at(asks, key) + 1);
            }
        }

        private int gatherKeys(Shape shape) {
            int found = 0;
            for (int key = 0; key < KEYS; key++) {
                if (shape.holds(key)) {
                    put(keys, found, key);
                    put(asksBefore, found + 1, at(asksBefore, found) + at(asks, key));
                    found++;
                }
            }
            return found;
        }

        private void settle(int from, int to) {
            int top = lowestTop(from, to);
            int asksHere = at(asksBefore, to) - at(asksBefore, from);
            put(least, from * ENDS + to, sumBelow(from, to, top) + asksHere);
            put(tops, from, top);
        }

        // The least top lies between those of the two spans that are shorter by one key (Knuth 1971),
        // so only the tops of the latest width are held, each at the place where its span begins.
        private int lowestTop(int from, int to) {
            boolean single = to - from == 1;
            int first = single ? from : at(tops, from);
            int last = single ? from : at(tops, from + 1);
            int lowest = first;
            int lowestSum = sumBelow(from, to, first);
            for (int top = first + 1; top <= last && top < to; top++) {
                int topSum = sumBelow(from, to, top);
                if (topSum < lowestSum) {
                    lowest = top;
                    lowestSum = topSum;
                }
            }
            return lowest;
        }

        // A span without keys has its place in the row too, and stays 0 there.
        private int sumBelow(int from, int to, int top) {
            return at(least, from * ENDS + top) + at(least, (top + 1) * ENDS + to);
        }
    }

    /** One page at a time, filled from the key where it begins. */
    private static final class Page {
        private final int[] keys;
        private int filled;

        Page() {
            keys = new int[MOST_ON_PAGE];
            filled = 0;
        }

        int countOnWay(Shape shape, int most, int key) {
            int start = shape.root;
            for (int count = 1; count <= KEYS; count++) {
                fill(shape, most, start);
                if (has(key)) {
                    return count;
                }
                start = startOfNext(shape, key);
            }
            return NONE;
        }

        private void fill(Shape shape, int most, int start) {
            filled = 0;
            take(start, most);
            for (int i = 0; i < filled && i < MOST_ON_PAGE; i++) {
                take(shape.leftOf(at(keys, i)), most);
                take(shape.rightOf(at(keys, i)), most);
            }
        }

        private void take(int key, int most) {
            if (key != NONE && filled < most) {
                put(keys, filled, key);
                filled++;
            }
        }

        private boolean has(int key) {
            for (int i = 0; i < filled; i++) {
                if (at(keys, i) == key) {
                    return true;
                }
            }
            return false;
        }

        private int startOfNext(Shape shape, int key) {
            int start = key;
            for (int step = 0; step < KEYS; step++) {
                int above = shape.upOf(start);
                if (above == NONE || has(above)) {
                    return start;
                }
                start = above;
            }
            return start;
        }
    }
}
