import java.util.List;

/**
 * A run of calls on one new object. Calls are written as in "add 0 5 = 1; join 0 1 = false; ask 0 64 = throws":
 * the name, the arguments, the answer that is due; "throws" is a NoSuchElementException.
 */
final class Run {
    private static final int MOST_CALLS = 512;

    private final TurningTrees trees = new TurningTrees();
    private final List<String> wrong;
    private int calls = 0;

    Run(List<String> wrong) {
        this.wrong = wrong;
    }

    /** A run on another new object, whose wrong answers are told with those of this one. */
    Run anew() {
        return new Run(wrong);
    }

    Run go(String written) {
        for (String call : written.split(";")) {
            if (!call.isBlank()) {
                String[] sides = call.trim().split(" = ");
                due(sides[0], sides[1]);
            }
        }
        return this;
    }

    void due(String call, int want) {
        due(call, "" + want);
    }

    void due(String call, String want) {
        expect(call, answer(call), want.equals("throws") ? "throws NoSuchElementException" : want);
    }

    void expect(String what, String got, String want) {
        if (!got.equals(want)) {
            wrong.add(what + " answered " + got + ", due is " + want);
        }
    }

    /** The calls answer as is due, and each tree is after them what it was ahead of them. */
    void goAndChangeNothing(String written) {
        String before = state();
        go(written);
        expect("the state after " + written, state(), before);
    }

    /** A tree of the kind is made, with these keys added in order. */
    Run with(int kind, int... keys) {
        int number = number("tree " + kind);
        for (int key : keys) {
            number("add " + number + " " + key);
        }
        return this;
    }

    /** A shape is written 10(5(-,7),20): each key, and what hangs on its left and its right. */
    void shape(int tree, String want) {
        expect("the shape of tree " + tree, written(tree), want);
        look(tree, number("count " + tree + " 2"), TurningTrees.NONE, 1);
    }

    /** The depth, the one above and the size of each key are those of the shape. */
    private int look(int tree, int key, int above, int depth) {
        if (key == TurningTrees.NONE) {
            return 0;
        }
        String it = "look " + tree + " " + key + " ";
        int size = 1 + look(tree, number(it + 2), key, depth + 1) + look(tree, number(it + 3), key, depth + 1);
        due(it + 0, depth);
        due(it + 1, above);
        due(it + 4, size);
        return size;
    }

    private String written(int tree) {
        return written(tree, number("count " + tree + " 2"));
    }

    private String written(int tree, int key) {
        if (key == TurningTrees.NONE) {
            return "-";
        }
        int left = number("look " + tree + " " + key + " 2");
        int right = number("look " + tree + " " + key + " 3");
        if (left == TurningTrees.NONE && right == TurningTrees.NONE) {
            return "" + key;
        }
        return key + "(" + written(tree, left) + "," + written(tree, right) + ")";
    }

    private String state() {
        StringBuilder state = new StringBuilder();
        for (int tree = 0; number("count " + tree + " 0") != TurningTrees.NONE; tree++) {
            state.append("tree ").append(tree).append(":");
            for (int what = 0; what <= 8; what++) {
                state.append(" ").append(number("count " + tree + " " + what));
            }
            state.append(" ").append(number("interleave " + tree)).append(" ").append(number("sweep " + tree));
            state.append(" ").append(number("best " + tree + " 0")).append(" ").append(number("best " + tree + " 1"));
            state.append(" ").append(written(tree)).append("; ");
        }
        return state.toString();
    }

    int number(String call) {
        return Integer.parseInt(answer(call));
    }

    /** The answer, or "throws" with the name of what was thrown. */
    String answer(String call) {
        calls++;
        if (calls > MOST_CALLS) {
            throw new IllegalStateException("a test of more calls than " + MOST_CALLS + " holds nothing promised");
        }
        String[] words = call.trim().split(" +");
        int[] a = new int[words.length - 1];
        for (int i = 0; i < a.length; i++) {
            a[i] = Integer.parseInt(words[i + 1]);
        }
        return answer(trees, words[0], a);
    }

    static String answer(TurningTrees trees, String name, int... a) {
        try {
            return called(trees, name, a);
        } catch (RuntimeException e) {
            return "throws " + e.getClass().getSimpleName();
        }
    }

    private static String called(TurningTrees trees, String name, int[] a) {
        return switch (name) {
            case "tree" -> "" + trees.tree(a[0]);
            case "add" -> "" + trees.add(a[0], a[1]);
            case "ask" -> "" + trees.ask(a[0], a[1]);
            case "remove" -> "" + trees.remove(a[0], a[1]);
            case "split" -> "" + trees.split(a[0], a[1]);
            case "join" -> "" + trees.join(a[0], a[1]);
            case "clear" -> "" + trees.clear(a[0]);
            case "look" -> "" + trees.look(a[0], a[1], a[2]);
            case "count" -> "" + trees.count(a[0], a[1]);
            case "best" -> "" + trees.best(a[0], a[1]);
            case "interleave" -> "" + trees.interleave(a[0]);
            case "sweep" -> "" + trees.sweep(a[0]);
            case "pages" -> "" + trees.pages(a[0], a[1], a[2]);
            case "keep" -> "" + trees.keep(a[0]);
            case "kept" -> "" + trees.kept(a[0], a[1]);
            default -> throw new IllegalArgumentException("no call is named " + name);
        };
    }
}
