import java.io.IOException;

/** Each sentence of promises 9 to 16 that names a boundary case, with a test of its own. */
public final class BoundaryTellingsTest {
    private static final int STILL = 0;
    private static final int SPLAY = 1;
    private static final int UP = 2;
    private static final int ROOT = 3;
    private static final int BALANCE = 4;
    private static final int KINDS = 6;
    private static final int KEYS = 64;
    private static final int[] NO_KEYS = {-1, 64, 65, Integer.MIN_VALUE, Integer.MAX_VALUE};
    /** No numbers of a tree where there is but tree 0. */
    private static final int[] NO_TREES = {-1, 1, 7, 8, 9, Integer.MIN_VALUE, Integer.MAX_VALUE};

    public static void main(String[] args) throws IOException {
        Sentences sentences = new Sentences();
        look(sentences);
        countOfKeys(sentences);
        countOfAsks(sentences);
        best(sentences);
        interleaveAndSweep(sentences);
        pages(sentences);
        keep(sentences);
        kept(sentences);
        sentences.end();
    }

    private static void look(Sentences s) {
        s.under("Promise 9: look");
        s.holds("what 0: DEPTH", x -> {
            chainOfAll(x).go("look 0 0 0 = 1; look 0 1 0 = 2; look 0 62 0 = 63; look 0 63 0 = 64");
        });
        s.holds("1: the one above it (NONE)", x -> {
            x.with(STILL, 0, 63, 30).go("look 0 0 1 = -1; look 0 63 1 = 0; look 0 30 1 = 63; remove 0 0 = 1; look 0 63 1 = -1");
        });
        s.holds("2: on its left (NONE)", x -> {
            x.with(STILL, 63, 0, 30).go("look 0 63 2 = 0; look 0 0 2 = -1; look 0 30 2 = -1; remove 0 0 = 2; look 0 63 2 = 30");
            x.go("remove 0 30 = 2; look 0 63 2 = -1");
        });
        s.holds("3: on its right (NONE)", x -> {
            x.with(STILL, 0, 63, 30).go("look 0 0 3 = 63; look 0 63 3 = -1; look 0 30 3 = -1; remove 0 63 = 2; look 0 0 3 = 30");
            x.go("remove 0 30 = 2; look 0 0 3 = -1");
        });
        s.holds("4: SIZE", x -> {
            chainOfAll(x).go("look 0 0 4 = 64; look 0 1 4 = 63; look 0 63 4 = 1; remove 0 63 = 64; look 0 0 4 = 63");
        });
        s.holds("NoSuchElementException: none such", x -> {
            x.with(SPLAY, 10, 20, 30);
            for (int tree : NO_TREES) {
                x.go("look T 20 0 = throws; look T 20 4 = throws".replace("T", "" + tree));
            }
            for (int key : NO_KEYS) {
                x.go("look 0 K 0 = throws; look 0 K 1 = throws; look 0 K 4 = throws".replace("K", "" + key));
            }
            for (int what : new int[] {-1, 5, 6, Integer.MIN_VALUE, Integer.MAX_VALUE}) {
                x.due("look 0 20 " + what, "throws");
            }
            x.goAndChangeNothing("look 0 0 0 = throws; look 0 15 0 = throws; look 0 63 4 = throws; look 0 20 5 = throws");
            x.go("remove 0 20 = 2; look 0 20 0 = throws; split 0 30 = 1; look 0 30 0 = throws; look 1 30 0 = 1");
            x.go("look 1 10 0 = throws; join 0 1 = true; look 1 30 0 = throws; look 0 30 0 = 2");
        });
    }

    private static void countOfKeys(Sentences s) {
        s.under("Promise 10: count");
        s.holds("what 0: kind", x -> {
            for (int kind = 0; kind < KINDS; kind++) {
                x.due("tree " + kind, kind);
                x.due("count " + kind + " 0", kind);
            }
        });
        s.holds("1: KEYS", x -> {
            x.with(STILL).go("count 0 1 = 0; add 0 5 = 0; count 0 1 = 1; add 0 5 = -1; count 0 1 = 1; remove 0 5 = 1");
            x.go("count 0 1 = 0");
            chainOfAll(x.anew()).go("count 0 1 = 64; add 0 63 = -1; count 0 1 = 64; remove 0 0 = 1; count 0 1 = 63");
        });
        s.holds("2: the root (NONE)", x -> {
            x.with(ROOT).go("count 0 2 = -1; add 0 0 = 0; count 0 2 = 0; add 0 63 = 1; count 0 2 = 63; remove 0 63 = 1");
            x.go("count 0 2 = 0; remove 0 0 = 1; count 0 2 = -1");
        });
        s.holds("3: greatest DEPTH (0)", x -> {
            x.with(STILL).go("count 0 3 = 0; add 0 5 = 0; count 0 3 = 1; remove 0 5 = 1; count 0 3 = 0");
            chainOfAll(x.anew()).go("count 0 3 = 64; remove 0 63 = 64; count 0 3 = 63");
            x.anew().with(STILL, 1, 0).go("count 0 3 = 2");
        });
        s.holds("4: TURNS", x -> {
            x.with(UP).go("count 0 4 = 0; add 0 1 = 0; count 0 4 = 0; add 0 2 = 1; count 0 4 = 1; ask 0 2 = 1; count 0 4 = 1");
            x.go("remove 0 2 = 1; count 0 4 = 2; remove 0 1 = 1; count 0 4 = 2");
        });
        s.holds("8: the most (of kind 4; else 0)", x -> {
            for (int kind = 0; kind < KINDS; kind++) {
                Run y = x.anew().with(kind).go("count 0 8 = 0; add 0 1 = 0; add 0 2 = 1");
                y.due("count 0 8", kind == BALANCE ? 2 : 0);
                y.go("split 0 2 = 1").due("count 1 8", kind == BALANCE ? 1 : 0);
            }
        });
        s.holds("NONE: none such", x -> {
            x.with(BALANCE, 1, 2, 3);
            for (int tree : NO_TREES) {
                for (int what = -1; what <= 9; what++) {
                    x.due("count " + tree + " " + what, -1);
                }
            }
            for (int what : new int[] {-1, 9, 10, Integer.MIN_VALUE, Integer.MAX_VALUE}) {
                x.due("count 0 " + what, -1);
            }
        });
    }

    private static void countOfAsks(Sentences s) {
        s.holds("5: COSTS of all ASKS", x -> {
            x.with(STILL).go("count 0 5 = 0; ask 0 9 = 0; count 0 5 = 0; add 0 5 = 0; count 0 5 = 0; ask 0 5 = 1; count 0 5 = 1");
            x.go("ask 0 6 = -1; count 0 5 = 2; remove 0 6 = -1; count 0 5 = 2; clear 0 = 3; count 0 5 = 2");
            for (int asks = 0; asks < 150; asks++) {
                x.go("ask 0 5 = 1");
            }
            // those that the row has no place for count too
            x.go("count 0 6 = 100; count 0 5 = 152");
        });
        s.holds("6: ASKS in the ROW", x -> {
            x.with(STILL).go("count 0 6 = 0; ask 0 9 = 0; count 0 6 = 1; ask 0 9 = 0; count 0 6 = 2; ask 0 64 = throws");
            x.go("count 0 6 = 2; clear 0 = 2; count 0 6 = 0");
            for (int asks = 1; asks <= 102; asks++) {
                x.go("ask 0 9 = 0").due("count 0 6", Math.min(asks, 100));
            }
        });
        s.holds("7: POTENTIAL", x -> {
            x.with(STILL).go("count 0 7 = 0; add 0 5 = 0; count 0 7 = 0; add 0 6 = 1; count 0 7 = 1; remove 0 6 = 2; count 0 7 = 0");
        });
    }

    private static void best(Sentences s) {
        s.under("Promise 11: best");
        s.holds("what 0: the sum", x -> {
            x.with(STILL).go("best 0 0 = 0; ask 0 5 = 0; best 0 0 = 0; add 0 5 = 0; best 0 0 = 1; add 0 4 = 1; best 0 0 = 1");
            for (int asks = 0; asks < 120; asks++) {
                x.go("ask 0 4 = 2");
            }
            // 99 of them are in the row, where 5 is asked once
            x.go("best 0 0 = 101; best 0 1 = 4");
        });
        s.holds("1: its root (NONE without KEYS)", x -> {
            x.with(STILL).go("best 0 1 = -1; ask 0 5 = 0; best 0 1 = -1; add 0 63 = 0; best 0 1 = 63; add 0 0 = 1; best 0 1 = 0");
            x.go("remove 0 0 = 2; remove 0 63 = 1; best 0 1 = -1; best 0 0 = 0");
        });
        s.holds("NONE: none such", x -> {
            x.with(STILL, 1, 2).go("ask 0 1 = 1");
            for (int tree : NO_TREES) {
                x.go("best T 0 = -1; best T 1 = -1".replace("T", "" + tree));
            }
            x.go("best 0 -1 = -1; best 0 2 = -1; best 0 2147483647 = -1; best 0 -2147483648 = -1; best 0 0 = 1");
        });
    }

    private static void interleaveAndSweep(Sentences s) {
        s.under("Promise 12: interleave");
        s.holds("INTERLEAVE; NONE: none such.", x -> {
            x.with(STILL).go("interleave 0 = 0; ask 0 0 = 0; interleave 0 = 0; ask 0 63 = 0; interleave 0 = 1");
            for (int tree : NO_TREES) {
                x.due("interleave " + tree, -1);
            }
        });
        s.under("Promise 13: sweep");
        s.holds("SWEEP; NONE: none such.", x -> {
            x.with(STILL).go("sweep 0 = 0; ask 0 0 = 0; sweep 0 = 1; ask 0 63 = 0; sweep 0 = 3");
            for (int tree : NO_TREES) {
                x.due("sweep " + tree, -1);
            }
        });
    }

    private static void pages(Sentences s) {
        s.under("Promise 14: pages");
        s.holds("PAGES of b KEYS on the way to a KEY", x -> {
            x.with(STILL, 0, 63).go("pages 0 1 0 = 1; pages 0 1 63 = 2; pages 0 2 63 = 1; pages 0 16 63 = 1");
        });
        s.holds("NONE: no such TREE", x -> {
            x.with(STILL, 1, 2);
            for (int tree : NO_TREES) {
                x.due("pages " + tree + " 1 1", -1);
            }
        });
        s.holds("NONE: no such TREE, b", x -> {
            x.with(STILL, 1, 2).go("pages 0 0 1 = -1; pages 0 -1 1 = -1; pages 0 17 1 = -1; pages 0 1 1 = 1; pages 0 16 1 = 1");
            x.go("pages 0 2147483647 1 = -1; pages 0 -2147483648 1 = -1");
        });
        s.holds("the KEY is not there", x -> {
            x.with(STILL).go("pages 0 1 1 = -1; add 0 1 = 0; pages 0 1 1 = 1; pages 0 1 0 = -1; pages 0 1 2 = -1; remove 0 1 = 1");
            x.go("pages 0 1 1 = -1; add 0 1 = 0");
            for (int key : NO_KEYS) {
                x.due("pages 0 1 " + key, -1);
            }
        });
    }

    private static void keep(Sentences s) {
        s.under("Promise 15: keep");
        s.holds("A TREE is KEPT as it is", x -> {
            x.with(SPLAY).go("keep 0 = 0; add 0 1 = 0; add 0 2 = 1; keep 0 = 1; ask 0 1 = 2; keep 0 = 2; split 0 2 = 1; keep 0 = 3");
            x.go("join 0 1 = true; keep 1 = 4; remove 0 1 = 1; remove 0 2 = 1; add 0 1 = 0; keep 0 = 5");
            x.go("kept 0 1 = 0; kept 0 2 = 0; kept 1 1 = 2; kept 1 2 = 1; kept 2 1 = 1; kept 2 2 = 2; kept 3 1 = 1");
            x.go("kept 3 2 = 0; kept 4 1 = 0; kept 4 2 = 0; kept 5 1 = 1; kept 5 2 = 0");
        });
        s.holds("the number (20 at most)", x -> {
            x.with(ROOT, 1, 2).with(ROOT);
            for (int k = 0; k < 20; k++) {
                x.due("keep " + k % 2, k);
            }
            x.go("kept 0 1 = 2; kept 18 1 = 2; kept 19 1 = 0; kept 20 1 = -1");
        });
        s.holds("NONE: none such", x -> {
            x.with(ROOT, 1);
            for (int tree : NO_TREES) {
                x.due("keep " + tree, -1);
            }
            x.go("kept 0 1 = -1; keep 0 = 0; keep 1 = -1; keep 0 = 1");
        });
        s.holds("20 are", x -> {
            x.with(ROOT, 1, 2);
            for (int k = 0; k < 20; k++) {
                x.due("keep 0", k);
            }
            x.go("ask 0 1 = 2; keep 0 = -1; keep 1 = -1; kept 20 1 = -1; kept 19 1 = 2; kept 0 1 = 2; tree 0 = 1; keep 1 = -1");
        });
    }

    private static void kept(Sentences s) {
        s.under("Promise 16: kept");
        s.holds("The DEPTH of a KEY in a KEPT one", x -> {
            chainOfAll(x).go("keep 0 = 0; remove 0 0 = 1; keep 0 = 1");
            for (int key = 0; key < KEYS; key++) {
                x.due("kept 0 " + key, key + 1);
                x.due("kept 1 " + key, key);
            }
        });
        s.holds("0: it was not there", x -> {
            x.with(STILL).go("keep 0 = 0; add 0 0 = 0; add 0 63 = 1; keep 0 = 1; kept 0 0 = 0; kept 0 63 = 0");
            x.go("kept 1 0 = 1; kept 1 1 = 0; kept 1 62 = 0; kept 1 63 = 2");
        });
        s.holds("NONE: none such", x -> {
            x.with(STILL, 5).go("kept 0 5 = -1; keep 0 = 0; kept 0 5 = 1; kept 1 5 = -1; kept -1 5 = -1; kept 19 5 = -1");
            x.go("kept 20 5 = -1; kept 2147483647 5 = -1; kept -2147483648 5 = -1; kept -1 -1 = -1");
            for (int key : NO_KEYS) {
                x.due("kept 0 " + key, -1);
            }
        });
    }

    private static Run chainOfAll(Run x) {
        x.with(STILL);
        for (int key = 0; key < KEYS; key++) {
            x.due("add 0 " + key, key);
        }
        return x;
    }
}
