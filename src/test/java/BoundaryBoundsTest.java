import java.io.IOException;

/** Each sentence of the terms ==== 3 (potential, row, best, bounds, pages) that names a boundary case, with its own test. */
public final class BoundaryBoundsTest {
    private static final int STILL = 0;
    private static final int SPLAY = 1;
    private static final int KEYS = 64;

    public static void main(String[] args) throws IOException {
        Sentences sentences = new Sentences();
        sentences.under("Terms");
        potential(sentences);
        row(sentences);
        best(sentences);
        interleave(sentences);
        sweep(sentences);
        pages(sentences);
        sentences.end();
    }

    private static void potential(Sentences s) {
        s.holds("the sum over all KEYS of the greatest e so that 2 to the e is not above its SIZE", x -> {
            int[] keys = {0, 1, 2, 3, 4, 7, 8, 15, 16, 31, 32, 63, 64};
            int[] sums = {0, 0, 1, 2, 4, 10, 13, 34, 38, 98, 103, 258, 264};
            x.with(STILL);
            for (int i = 0, key = 0; i < keys.length; i++) {
                for (; key < keys[i]; key++) {
                    x.due("add 0 " + key, key);
                }
                x.due("count 0 7", sums[i]);
            }
            x.anew().with(STILL, 2, 1, 3).go("count 0 7 = 1; add 0 4 = 2; count 0 7 = 3");
        });
    }

    private static void row(Sentences s) {
        s.holds("the KEYS of its latest ASKS, in order", x -> {
            x.with(STILL).go("ask 0 0 = 0; ask 0 1 = 0; ask 0 0 = 0; count 0 6 = 3; interleave 0 = 2");
            x.anew().with(STILL).go("ask 0 0 = 0; ask 0 0 = 0; ask 0 1 = 0; count 0 6 = 3; interleave 0 = 1");
            x.go("add 0 9 = 0; remove 0 9 = 1; remove 0 9 = 0; count 0 6 = 3");
        });
        s.holds("100 at most (further ones are not written until it is cleared)", x -> {
            x.with(STILL, 5);
            for (int asks = 1; asks <= 100; asks++) {
                x.go("ask 0 5 = 1").due("count 0 6", asks);
            }
            x.go("ask 0 40 = -1; count 0 6 = 100; ask 0 5 = 1; count 0 6 = 100; interleave 0 = 0; sweep 0 = 100");
            x.go("best 0 0 = 100; count 0 5 = 102; clear 0 = 100; count 0 6 = 0; ask 0 40 = -1; count 0 6 = 1");
            x.go("ask 0 5 = 1; count 0 6 = 2; interleave 0 = 1; sweep 0 = 3");
        });
    }

    private static void best(Sentences s) {
        s.holds("BEST STILL TREE of the KEYS that are in the TREE: the least sum", x -> {
            x.with(STILL).go("best 0 0 = 0; add 0 9 = 0; best 0 0 = 0; best 0 1 = 9; ask 0 9 = 1; best 0 0 = 1");
            Run y = x.anew().with(STILL);
            for (int key = 0; key < KEYS; key++) {
                y.due("add 0 " + key, key);
            }
            for (int key = 0; key < KEYS; key++) {
                y.due("ask 0 " + key, key + 1);
            }
            // 1 + 2 * 2 + 4 * 3 + 8 * 4 + 16 * 5 + 32 * 6 + 7
            y.go("best 0 0 = 328; best 0 1 = 31");
        });
        s.holds("over the ASKS of its ROW whose KEY is in it, of the DEPTH", x -> {
            x.with(STILL).go("ask 0 1 = 0; best 0 0 = 0; best 0 1 = -1; add 0 2 = 0; best 0 0 = 0; best 0 1 = 2");
            x.go("add 0 1 = 1; best 0 0 = 1; best 0 1 = 1; ask 0 2 = 1; ask 0 2 = 1; best 0 0 = 4; best 0 1 = 2");
            x.go("remove 0 2 = 1; best 0 0 = 1; best 0 1 = 1; add 0 2 = 1; best 0 0 = 4; clear 0 = 3; best 0 0 = 0");
        });
        s.holds("its root: the least of those that can be", x -> {
            x.with(STILL, 63, 0, 30).go("best 0 1 = 0; ask 0 63 = 1; best 0 1 = 63; ask 0 0 = 2; best 0 0 = 3; best 0 1 = 0");
            x.go("ask 0 30 = 3; best 0 0 = 5; best 0 1 = 30");
            // 63 asked twice: 30(0,63) and 63(0(-,30),-) both have 7; asked three times, it must be the root
            x.go("ask 0 63 = 1; best 0 0 = 7; best 0 1 = 30; ask 0 63 = 1; best 0 0 = 8; best 0 1 = 63");
            x.anew().with(STILL, 1, 2, 3, 4).go("best 0 1 = 1; ask 0 4 = 4; best 0 0 = 1; best 0 1 = 4");
            x.anew().with(STILL, 1, 2, 3, 4).go("ask 0 2 = 2; ask 0 3 = 3; best 0 0 = 3; best 0 1 = 2");
        });
    }

    private static void interleave(Sentences s) {
        s.holds("spans of KEYS: 0 to 63, each halved down to single ones", x -> {
            for (int key = 0; key + 1 < KEYS; key++) {
                String asks = "ask 0 " + key + " = 0; ask 0 " + (key + 1) + " = 0; ";
                x.anew().with(STILL).go(asks + "interleave 0 = 1; " + asks + "interleave 0 = 3");
            }
            x.with(STILL).go("ask 0 31 = 0; ask 0 32 = 0; ask 0 31 = 0; interleave 0 = 2");
            // 15 changes in 0 to 31; 16 there too, and, behind 31, in 16 to 31
            x.go("ask 0 15 = 0; interleave 0 = 3; ask 0 16 = 0; interleave 0 = 5");
            // 47 changes in 0 to 63 and, behind 32, in 32 to 47; 48 in 32 to 63
            x.go("ask 0 47 = 0; interleave 0 = 7; ask 0 48 = 0; interleave 0 = 8");
        });
        s.holds("of each span of two and more: its ASKS in order, each in the lower or upper half: how often it changes", x -> {
            x.with(STILL).go("interleave 0 = 0; ask 0 0 = 0; interleave 0 = 0; ask 0 0 = 0; interleave 0 = 0");
            // what is asked ahead of a span's next ASK elsewhere does not part them
            x.go("ask 0 63 = 0; interleave 0 = 1; ask 0 1 = 0; interleave 0 = 3; ask 0 62 = 0; interleave 0 = 5");
        });
        s.holds("the sum of all", x -> {
            x.with(STILL);
            for (int key = 0; key < KEYS; key++) {
                x.due("ask 0 " + key, 0);
            }
            // one change in each of 32 + 16 + 8 + 4 + 2 + 1 spans
            x.go("interleave 0 = 63");
            Run y = x.anew().with(STILL);
            for (int asks = 0; asks < 50; asks++) {
                y.go("ask 0 0 = 0; ask 0 63 = 0");
            }
            y.go("interleave 0 = 99");
        });
    }

    private static void sweep(Sentences s) {
        s.holds("each ASK at its moment (1, 2, ..): its KEY x is touched", x -> {
            x.with(STILL).go("sweep 0 = 0; ask 0 7 = 0; sweep 0 = 1; ask 0 7 = 0; sweep 0 = 2; ask 0 7 = 0; sweep 0 = 3");
        });
        s.holds("m being when x was touched latest ahead of it (0: never)", x -> {
            // 10 is touched at 1 and, with 20, at 2: at 3 it is alone
            x.with(STILL).go("ask 0 10 = 0; ask 0 20 = 0; sweep 0 = 3; ask 0 10 = 0; sweep 0 = 4");
            // 20 was touched at 2 and 10 at 3: at 4 both are
            x.go("ask 0 20 = 0; sweep 0 = 6");
        });
        s.holds("each KEY that was touched ahead of it later than m is touched", x -> {
            x.with(STILL).go("ask 0 0 = 0; ask 0 63 = 0; sweep 0 = 3; ask 0 63 = 0; sweep 0 = 4; ask 0 0 = 0; sweep 0 = 6");
            Run y = x.anew().with(STILL);
            for (int asks = 0; asks < 50; asks++) {
                y.go("ask 0 0 = 0; ask 0 63 = 0");
            }
            // 0 is alone each time, 63 with 0
            y.go("sweep 0 = 150");
            x.anew().with(STILL).go("ask 0 62 = 0; ask 0 63 = 0; sweep 0 = 3");
        });
        s.holds("and its moment is m from there on", x -> {
            // 10 and 20 both are touched at 2: from 30 down 20 is touched, and 10 no more
            x.with(STILL).go("ask 0 10 = 0; ask 0 20 = 0; ask 0 30 = 0; sweep 0 = 5");
            // 10 at 2, 20 and 30 at 3: from 0 up 10 and 20
            x.go("ask 0 0 = 0; sweep 0 = 8");
        });
        s.holds("likewise from x up", x -> {
            // 20 at 2 and 10 at 3: what 10 made of m on the way down is not held against 20
            x.with(STILL).go("ask 0 20 = 0; ask 0 10 = 0; ask 0 10 = 0; sweep 0 = 4; ask 0 15 = 0; sweep 0 = 7");
            // 20 is touched at 2, as 10 is: at 3 it is alone
            x.anew().with(STILL).go("ask 0 20 = 0; ask 0 10 = 0; sweep 0 = 3; ask 0 20 = 0; sweep 0 = 4");
            x.anew().with(STILL).go("ask 0 63 = 0; ask 0 0 = 0; sweep 0 = 3");
            x.anew().with(STILL).go("ask 0 1 = 0; ask 0 0 = 0; sweep 0 = 3");
        });
    }

    private static void pages(Sentences s) {
        s.holds("PAGES of b KEYS (1 to 16)", x -> {
            x.with(STILL);
            for (int key = 0; key < KEYS; key++) {
                x.due("add 0 " + key, key);
            }
            x.go("pages 0 0 0 = -1; pages 0 17 0 = -1; pages 0 -1 0 = -1");
            x.go("pages 0 1 0 = 1; pages 0 1 1 = 2; pages 0 1 63 = 64");
            x.go("pages 0 16 15 = 1; pages 0 16 16 = 2; pages 0 16 47 = 3; pages 0 16 48 = 4; pages 0 16 63 = 4");
        });
        s.holds("the root begins one", x -> {
            nine(x).go("pages 0 1 10 = 1; pages 0 2 10 = 1; pages 0 16 10 = 1");
        });
        s.holds("a page takes, from where it begins, by DEPTH, of one DEPTH from the left, b KEYS", x -> {
            nine(x).go("pages 0 2 5 = 1; pages 0 2 20 = 2; pages 0 3 20 = 1; pages 0 3 3 = 2; pages 0 4 3 = 1; pages 0 4 7 = 2");
            x.go("pages 0 5 7 = 1; pages 0 5 15 = 2; pages 0 6 15 = 1; pages 0 6 30 = 2; pages 0 7 30 = 1; pages 0 7 1 = 2");
            x.go("pages 0 8 1 = 1; pages 0 8 40 = 2; pages 0 9 40 = 1");
            // what a greater page held ahead of it is not on a lesser one
            x.go("pages 0 16 40 = 1; pages 0 8 40 = 2; pages 0 7 1 = 2; pages 0 16 7 = 1; pages 0 4 7 = 2; pages 0 1 5 = 2");
        });
        s.holds("each that hangs on one that it has", x -> {
            // the page of 20 has 15, 30 too if it may; that of 3 has 1, and not 7 beside it
            nine(x).go("pages 0 2 15 = 2; pages 0 2 30 = 3; pages 0 2 1 = 2; pages 0 2 7 = 2; pages 0 2 3 = 2; pages 0 2 40 = 3");
        });
        s.holds("what hangs on them else begins others", x -> {
            nine(x).go("pages 0 3 1 = 2; pages 0 3 40 = 2; pages 0 3 7 = 2; pages 0 3 15 = 2; pages 0 4 1 = 2; pages 0 4 30 = 2");
        });
        s.holds("how many pages its way from the root goes through", x -> {
            nine(x).go("pages 0 1 1 = 4; pages 0 1 40 = 4; pages 0 1 7 = 3; pages 0 1 5 = 2; pages 0 16 1 = 1");
            x.anew().with(SPLAY, 1, 2, 3).go("pages 0 1 1 = 3; ask 0 1 = 3; pages 0 1 1 = 1; pages 0 1 3 = 3");
        });
    }

    /** 10(5(3(1,-),7),20(15,30(-,40))) */
    private static Run nine(Run x) {
        return x.with(STILL, 10, 5, 20, 3, 7, 15, 30, 1, 40);
    }
}
