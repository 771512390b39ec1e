import java.io.IOException;

/** The lines of the public face, and the sentence on the calls of an object, each with a test of its own. */
public final class BoundaryFaceTest {
    private static final int STILL = 0;
    private static final int KINDS = 6;
    private static final int KEYS = 64;
    private static final int[] EDGES = {Integer.MIN_VALUE, Integer.MIN_VALUE + 1, -65, -64, -2, -1, 0, 1, 2, 4, 5, 6, 7, 8, 9,
        16, 17, 19, 20, 21, 31, 32, 62, 63, 64, 65, 100, 511, 512, 1 << 26, Integer.MAX_VALUE - 1, Integer.MAX_VALUE};
    private static final String THROWS_NONE = "";
    private static final String THROWS_NO_SUCH = "throws NoSuchElementException";

    public static void main(String[] args) throws IOException {
        Sentences sentences = new Sentences();
        calls(sentences);
        constantAndConstructor(sentences);
        callsThatThrowNothing(sentences);
        callsThatThrow(sentences);
        sentences.end();
    }

    private static void calls(Sentences s) {
        s.under("What it is");
        s.holds("An object is used for at most 512 calls after it has been made", x -> {
            x.with(STILL);
            for (int key = 0; key < KEYS; key++) {
                x.due("add 0 " + key, key);
            }
            for (int asks = 0; asks < 446; asks++) {
                x.due("ask 0 63", 64);
            }
            // the 512th call: the greatest costs that can be
            x.due("count 0 5", 446 * 64);
            Run y = x.anew().with(STILL, 5);
            for (int calls = 3; calls <= 511; calls++) {
                y.due("remove 0 6", -1);
            }
            y.due("tree 5", 1);
        });
    }

    private static void constantAndConstructor(Sentences s) {
        s.under("Terms");
        s.holds("The constants: `NONE = -1`: None.", x -> {
            x.expect("NONE", "" + TurningTrees.NONE, "-1");
            x.with(STILL, 5).go("count 0 2 = 5; tree 6 = " + TurningTrees.NONE + "; look 0 5 1 = " + TurningTrees.NONE);
        });
        s.under("The public face");
        s.holds("public static final int NONE = -1;", x -> {
            x.expect("NONE", "" + TurningTrees.NONE, "-1");
        });
        s.holds("public TurningTrees();", x -> {
            x.with(STILL, 5);
            x.anew().go("count 0 0 = -1; tree 1 = 0; count 0 1 = 0");
            x.go("count 0 0 = 0; count 0 1 = 1");
        });
    }

    private static void callsThatThrowNothing(Sentences s) {
        s.holds("public int tree(int kind);", x -> edges(x, "tree", 1, THROWS_NONE));
        s.holds("public int add(int tree, int key);", x -> edges(x, "add", 2, THROWS_NONE));
        s.holds("public int split(int tree, int key);", x -> edges(x, "split", 2, THROWS_NONE));
        s.holds("public boolean join(int tree, int other);", x -> edges(x, "join", 2, THROWS_NONE));
        s.holds("public int clear(int tree);", x -> edges(x, "clear", 1, THROWS_NONE));
        s.holds("public int count(int tree, int what);", x -> edges(x, "count", 2, THROWS_NONE));
        s.holds("public int best(int tree, int what);", x -> edges(x, "best", 2, THROWS_NONE));
        s.holds("public int interleave(int tree);", x -> edges(x, "interleave", 1, THROWS_NONE));
        s.holds("public int sweep(int tree);", x -> edges(x, "sweep", 1, THROWS_NONE));
        s.holds("public int pages(int tree, int b, int key);", x -> edges(x, "pages", 3, THROWS_NONE));
        s.holds("public int keep(int tree);", x -> edges(x, "keep", 1, THROWS_NONE));
        s.holds("public int kept(int k, int key);", x -> edges(x, "kept", 2, THROWS_NONE));
    }

    private static void callsThatThrow(Sentences s) {
        s.holds("public int ask(int tree, int key) throws NoSuchElementException;", x -> edges(x, "ask", 2, THROWS_NO_SUCH));
        s.holds("public int remove(int tree, int key) throws NoSuchElementException;",
            x -> edges(x, "remove", 2, THROWS_NO_SUCH));
        s.holds("public int look(int tree, int key, int what) throws NoSuchElementException;",
            x -> edges(x, "look", 3, THROWS_NO_SUCH));
    }

    /** The call with all edges of an int for each argument, of a new object and of a full one: it throws that at most. */
    private static void edges(Run x, String call, int arguments, String mayThrow) {
        Run empty = x.anew();
        Run full = fullOne(x);
        int all = 1;
        for (int i = 0; i < arguments; i++) {
            all *= EDGES.length;
        }
        int thrown = 0;
        for (int number = 0; number < all; number++) {
            if (number % 100 == 99) {
                empty = x.anew();
                full = fullOne(x);
            }
            String written = call;
            for (int i = 0, rest = number; i < arguments; i++, rest /= EDGES.length) {
                written += " " + EDGES[rest % EDGES.length];
            }
            thrown += throwsAtMost(empty, written, mayThrow) + throwsAtMost(full, written, mayThrow);
        }
        x.expect("some " + call + " throws", "" + (thrown > 0), "" + !mayThrow.isEmpty());
    }

    private static int throwsAtMost(Run x, String call, String mayThrow) {
        String answer = x.answer(call);
        if (!answer.startsWith("throws")) {
            return 0;
        }
        x.expect(call, answer, mayThrow.isEmpty() ? "no exception" : mayThrow);
        return 1;
    }

    /** An object with 8 trees of all kinds, one of them with all keys, two empty, and 20 kept. */
    private static Run fullOne(Run x) {
        Run full = x.anew();
        for (int tree = 0; tree < 8; tree++) {
            full.with(tree % KINDS);
        }
        for (int key = 0; key < KEYS; key++) {
            full.number("add 1 " + key);
        }
        for (int tree = 0; tree < KINDS; tree++) {
            full.number("add " + tree + " 63");
            full.number("add " + tree + " 5");
            full.number("add " + tree + " 17");
            full.number("ask " + tree + " 0");
        }
        for (int asks = 0; asks < 100; asks++) {
            full.number("ask 1 " + asks % KEYS);
        }
        for (int kept = 0; kept < 20; kept++) {
            full.number("keep " + kept % 8);
        }
        return full;
    }
}
