import java.io.IOException;

/** Each sentence of promises 1 to 8 that names a boundary case, with a test of its own. */
public final class BoundaryPromisesTest {
    private static final int STILL = 0;
    private static final int SPLAY = 1;
    private static final int ROOT = 3;
    private static final int BALANCE = 4;
    private static final int HEAP = 5;
    private static final int KINDS = 6;
    private static final int[] NO_KEYS = {-1, 64, 65, Integer.MIN_VALUE, Integer.MAX_VALUE};
    /** No numbers of a tree where there is but tree 0. */
    private static final int[] NO_TREES = {-1, 1, 7, 8, 9, Integer.MIN_VALUE, Integer.MAX_VALUE};

    public static void main(String[] args) throws IOException {
        Sentences sentences = new Sentences();
        newObject(sentences);
        tree(sentences);
        add(sentences);
        ask(sentences);
        remove(sentences);
        split(sentences);
        join(sentences);
        clear(sentences);
        sentences.end();
    }

    private static void newObject(Sentences s) {
        s.under("Promise 1: A new object");
        s.holds("No TREE.", x -> {
            for (int tree = -1; tree <= 8; tree++) {
                x.go("count T 0 = -1; add T 5 = -1; ask T 5 = throws; remove T 5 = throws".replace("T", "" + tree));
                x.go("split T 5 = -1; join T 0 = false; join 0 T = false; clear T = -1".replace("T", "" + tree));
                x.go("look T 5 0 = throws; best T 0 = -1; interleave T = -1; sweep T = -1".replace("T", "" + tree));
                x.go("pages T 1 5 = -1; keep T = -1; kept T 5 = -1".replace("T", "" + tree));
            }
            x.go("tree 0 = 0; count 0 1 = 0");
            x.anew().go("count 0 1 = -1");
        });
    }

    private static void tree(Sentences s) {
        s.under("Promise 2: tree");
        s.holds("An empty TREE of a kind: its number", x -> {
            for (int kind = 0; kind < KINDS; kind++) {
                x.due("tree " + kind, kind);
                x.due("count " + kind + " 0", kind);
                for (int what : new int[] {1, 3, 4, 5, 6, 7, 8}) {
                    x.due("count " + kind + " " + what, 0);
                }
                x.due("count " + kind + " 2", -1);
            }
            x.go("tree 0 = 6; tree 5 = 7; count 7 0 = 5");
        });
        s.holds("NONE: another kind", x -> {
            x.go("tree -1 = -1; tree 6 = -1; tree 2147483647 = -1; tree -2147483648 = -1; count 0 0 = -1");
            x.go("tree 5 = 0; tree 6 = -1; tree 0 = 1");
        });
        s.holds("8 are there", x -> {
            x.go("tree 0 = 0; tree 0 = 1; tree 0 = 2; tree 0 = 3; tree 0 = 4; tree 0 = 5; tree 0 = 6; tree 1 = 7");
            x.goAndChangeNothing("tree 0 = -1; tree 5 = -1; tree 6 = -1");
            // one that a join emptied is there still
            x.go("join 0 1 = true; tree 0 = -1; count 8 0 = -1");
        });
    }

    private static void add(Sentences s) {
        s.under("Promise 3: add");
        s.holds("the COST (0 into an empty one)", x -> {
            for (int kind = 0; kind < KINDS; kind++) {
                Run y = x.anew().with(kind).go("add 0 9 = 0; remove 0 9 = 1; add 0 8 = 0; remove 0 8 = 1; add 0 7 = 0");
                y.go("split 0 0 = 1; add 0 63 = 0; join 1 0 = true; add 0 0 = 0; count 0 1 = 1; count 1 1 = 2");
            }
        });
        s.holds("NONE: no such TREE", x -> {
            x.with(SPLAY, 1, 2, 3);
            for (int tree : NO_TREES) {
                x.goAndChangeNothing("add " + tree + " 5 = -1; add " + tree + " 64 = -1");
            }
        });
        s.holds("NONE: no such TREE, KEY", x -> {
            x.with(SPLAY, 1, 2, 3);
            for (int key : NO_KEYS) {
                x.goAndChangeNothing("add 0 " + key + " = -1");
            }
        });
        s.holds("it is there (nothing changes)", x -> {
            for (int kind = 0; kind < KINDS; kind++) {
                Run y = x.anew().with(kind, 30, 10, 20, 0, 63);
                y.goAndChangeNothing("add 0 0 = -1; add 0 10 = -1; add 0 20 = -1; add 0 30 = -1; add 0 63 = -1");
            }
        });
    }

    private static void ask(Sentences s) {
        s.under("Promise 4: ask");
        s.holds("the COST if it is found", x -> {
            x.with(STILL, 0, 63).go("ask 0 0 = 1; ask 0 63 = 2; count 0 5 = 3; count 0 6 = 2");
        });
        s.holds("0 less the COST if not", x -> {
            x.with(STILL).go("ask 0 0 = 0; ask 0 63 = 0; count 0 5 = 0; count 0 6 = 2");
            x.go("add 0 5 = 0; ask 0 4 = -1; ask 0 6 = -1; add 0 6 = 1; ask 0 63 = -2; ask 0 0 = -1; count 0 5 = 5");
        });
        s.holds("NoSuchElementException: no such TREE", x -> {
            x.with(SPLAY, 1, 2, 3);
            for (int tree : NO_TREES) {
                x.goAndChangeNothing("ask " + tree + " 1 = throws; ask " + tree + " 64 = throws");
            }
        });
        s.holds("NoSuchElementException: no such TREE, KEY", x -> {
            x.with(SPLAY, 1, 2, 3);
            for (int key : NO_KEYS) {
                x.goAndChangeNothing("ask 0 " + key + " = throws");
            }
        });
    }

    private static void remove(Sentences s) {
        s.under("Promise 5: remove");
        s.holds("the COST if it was found", x -> {
            x.with(STILL, 0, 63, 30).go("remove 0 30 = 3; remove 0 63 = 2; remove 0 0 = 1; count 0 1 = 0");
            x.go("count 0 5 = 0; count 0 6 = 0");
        });
        s.holds("0 less the COST if not", x -> {
            x.with(STILL).go("remove 0 0 = 0; remove 0 63 = 0; add 0 5 = 0; remove 0 4 = -1; remove 0 6 = -1");
            x.go("remove 0 5 = 1; remove 0 5 = 0; count 0 5 = 0; count 0 6 = 0");
        });
        s.holds("NoSuchElementException: no such TREE", x -> {
            x.with(SPLAY, 1, 2, 3);
            for (int tree : NO_TREES) {
                x.goAndChangeNothing("remove " + tree + " 1 = throws; remove " + tree + " 64 = throws");
            }
        });
        s.holds("NoSuchElementException: no such TREE, KEY", x -> {
            x.with(SPLAY, 1, 2, 3);
            for (int key : NO_KEYS) {
                x.goAndChangeNothing("remove 0 " + key + " = throws");
            }
        });
    }

    private static void split(Sentences s) {
        s.under("Promise 6: split");
        s.holds("SPLIT: the number of the TREE more", x -> {
            x.with(STILL, 1, 2, 3).go("split 0 3 = 1; tree 5 = 2; split 0 2 = 3; split 3 0 = 4; count 3 1 = 0");
            x.go("count 4 1 = 1; split 4 63 = 5; split 5 63 = 6; split 0 1 = 7; count 0 1 = 0; look 7 1 0 = 1");
        });
        s.holds("NONE: no such TREE", x -> {
            x.with(SPLAY, 1, 2, 3);
            for (int tree : NO_TREES) {
                x.goAndChangeNothing("split " + tree + " 2 = -1");
            }
            x.go("tree 0 = 1");
        });
        s.holds("NONE: no such TREE, KEY", x -> {
            x.with(SPLAY, 1, 2, 3);
            for (int key : NO_KEYS) {
                x.goAndChangeNothing("split 0 " + key + " = -1");
            }
            x.go("split 0 0 = 1; split 0 63 = 2");
        });
        s.holds("8 are there", x -> {
            x.with(BALANCE, 1, 2, 3, 4, 5).go("remove 0 5 = 4; count 0 8 = 5");
            x.go("tree 4 = 1; tree 4 = 2; tree 4 = 3; tree 4 = 4; tree 4 = 5; tree 4 = 6; tree 4 = 7");
            x.goAndChangeNothing("split 0 3 = -1; split 0 0 = -1; split 1 0 = -1");
        });
    }

    private static void join(Sentences s) {
        s.under("Promise 7: join");
        s.holds("JOIN: true", x -> {
            for (int kind = 0; kind < KINDS; kind++) {
                Run y = x.anew().with(kind, 0, 1).with(kind, 62, 63).go("join 0 1 = true; count 0 1 = 4; count 1 1 = 0");
                y.go("join 0 1 = true; join 1 0 = true; count 1 1 = 4; count 0 1 = 0");
            }
        });
        s.holds("false: none such", x -> {
            x.with(ROOT, 1, 2, 3);
            for (int tree : NO_TREES) {
                x.go("join 0 T = false; join T 0 = false; join T T = false".replace("T", "" + tree));
            }
            x.goAndChangeNothing("join 0 1 = false; join 1 0 = false; join 0 8 = false; join -1 0 = false");
            // where two could be joined, no other number stands for either
            Run y = x.anew().with(ROOT, 1, 2, 3).with(ROOT, 9);
            y.goAndChangeNothing("join 0 9 = false; join 8 1 = false; join -8 1 = false; join 0 -7 = false; join 0 2 = false");
            y.go("join 0 1 = true");
        });
        s.holds("the same one", x -> {
            x.with(ROOT, 1, 2, 3).with(ROOT).goAndChangeNothing("join 0 0 = false; join 1 1 = false");
        });
        s.holds("of two kinds", x -> {
            for (int kind = 0; kind < KINDS; kind++) {
                for (int other = 0; other < KINDS; other++) {
                    Run y = x.anew().with(kind, 1, 2).with(other, 8, 9);
                    y.due("join 0 1", "" + (kind == other));
                    Run z = x.anew().with(kind).with(other);
                    z.due("join 0 1", "" + (kind == other));
                }
            }
            x.with(STILL, 1, 2).with(BALANCE, 8, 9).with(SPLAY);
            x.goAndChangeNothing("join 0 1 = false; join 0 2 = false; join 2 0 = false; join 2 1 = false");
        });
        s.holds("not so ordered", x -> {
            for (int kind = 0; kind < KINDS; kind++) {
                Run y = x.anew().with(kind, 3, 9).with(kind, 5).with(kind, 9, 10).with(kind, 1, 3);
                y.goAndChangeNothing("join 0 1 = false; join 1 0 = false; join 0 2 = false; join 2 0 = false");
                y.goAndChangeNothing("join 0 3 = false; join 3 0 = false; join 2 1 = false; join 1 3 = false");
            }
            x.with(HEAP, 3, 4).with(HEAP, 5).go("join 1 0 = false; join 0 1 = true");
        });
    }

    private static void clear(Sentences s) {
        s.under("Promise 8: clear");
        s.holds("THE ROW is cleared: how many ASKS it had", x -> {
            x.with(STILL, 5).go("clear 0 = 0; ask 0 5 = 1; clear 0 = 1; clear 0 = 0; count 0 6 = 0; count 0 5 = 1");
            for (int asks = 0; asks < 101; asks++) {
                x.go("ask 0 5 = 1");
            }
            x.go("clear 0 = 100; clear 0 = 0; count 0 5 = 102; best 0 0 = 0; interleave 0 = 0; sweep 0 = 0; count 0 1 = 1");
            // the row of another tree stays
            x.go("tree 0 = 1; ask 0 5 = 1; ask 1 5 = 0; ask 1 6 = 0; clear 0 = 1; count 1 6 = 2; clear 1 = 2");
        });
        s.holds("NONE: none such", x -> {
            x.with(STILL, 5).go("ask 0 5 = 1");
            for (int tree : NO_TREES) {
                x.goAndChangeNothing("clear " + tree + " = -1");
            }
        });
    }
}
