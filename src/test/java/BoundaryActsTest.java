import java.io.IOException;

/** Each sentence of the terms ==== 2 (add, ask, remove, split, join) that names a boundary case, with its own test. */
public final class BoundaryActsTest {
    private static final int STILL = 0;
    private static final int SPLAY = 1;
    private static final int UP = 2;
    private static final int ROOT = 3;
    private static final int BALANCE = 4;
    private static final int HEAP = 5;
    private static final int KINDS = 6;
    private static final int KEYS = 64;

    public static void main(String[] args) throws IOException {
        Sentences sentences = new Sentences();
        sentences.under("Terms");
        addAndAsk(sentences);
        removeTurns(sentences);
        removeActs(sentences);
        split(sentences);
        join(sentences);
        joinOfHeap(sentences);
        mostAndTurns(sentences);
        sentences.end();
    }

    private static void addAndAsk(Sentences s) {
        s.holds("ADD: GOES for the KEY; it is hung where there is none; then the ACT with it.", x -> {
            x.go("tree 0 = 0; add 0 10 = 0; add 0 5 = 1; add 0 20 = 1; add 0 7 = 2; add 0 8 = 3; add 0 0 = 2; add 0 63 = 2");
            x.shape(0, "10(5(0,7(-,8)),20(-,63))");
            x.anew().go("tree 1 = 0; add 0 2 = 0; add 0 1 = 1; add 0 3 = 2").shape(0, "3(2(1,-),-)");
            x.anew().go("tree 2 = 0; add 0 2 = 0; add 0 1 = 1; add 0 3 = 2").shape(0, "1(-,3(2,-))");
            x.anew().go("tree 3 = 0; add 0 2 = 0; add 0 1 = 1; add 0 3 = 2").shape(0, "3(1(-,2),-)");
            x.anew().go("tree 5 = 0; add 0 2 = 0; add 0 1 = 1; add 0 3 = 2").shape(0, "3(1(-,2),-)");
        });
        s.holds("ASK: GOES; the ACT with the LAST (of kinds 1, 2, 3).", x -> {
            for (int kind = 0; kind < KINDS; kind++) {
                x.anew().with(kind).go("ask 0 5 = 0; count 0 2 = -1; count 0 1 = 0; count 0 4 = 0");
            }
            x.with(STILL, 3, 2, 1).go("ask 0 0 = -3; ask 0 1 = 3").shape(0, "3(2(1,-),-)");
            x.anew().with(SPLAY, 1, 2, 3).go("ask 0 0 = -3").shape(0, "1(-,2(-,3))");
            x.anew().with(UP, 1, 2, 3).go("ask 0 0 = -3").shape(0, "3(1(-,2),-)");
            x.anew().with(ROOT, 1, 2, 3).go("ask 0 0 = -3").shape(0, "1(-,3(2,-))");
            x.anew().with(BALANCE, 3, 2, 1).go("ask 0 0 = -3; ask 0 1 = 3").shape(0, "3(2(1,-),-)");
            x.anew().with(HEAP, 3, 1, 0).go("ask 0 0 = 3; ask 0 2 = -2").shape(0, "3(1(0,-),-)");
        });
    }

    private static void removeTurns(Sentences s) {
        s.holds("found, as long as something hangs on it", x -> {
            x.with(STILL, 2, 1, 3).go("remove 0 1 = 2; count 0 4 = 0").shape(0, "2(-,3)");
            x.go("remove 0 3 = 2; count 0 4 = 0").shape(0, "2");
            x.go("remove 0 2 = 1; count 0 4 = 0").shape(0, "-");
            Run y = x.anew().with(STILL);
            for (int key = 0; key < KEYS; key++) {
                y.due("add 0 " + key, key);
            }
            y.go("remove 0 0 = 1; count 0 4 = 1; count 0 2 = 1; count 0 3 = 63; look 0 0 0 = throws");
        });
        s.holds("a TURN of the one on the left if there is none on the right", x -> {
            x.with(STILL, 3, 1, 2).go("remove 0 3 = 1; count 0 4 = 2").shape(0, "1(-,2)");
            x.anew().with(HEAP, 3, 1, 2).go("remove 0 3 = 1; count 0 4 = 2").shape(0, "1(-,2)");
        });
        // weights: 0 11, 2 21, 10 61, 36 63, 37 36, 38 9
        s.holds("or, of kind 5, the left one's WEIGHT is the greater", x -> {
            x.with(HEAP, 36, 10, 37, 38).shape(0, "36(10,37(-,38))");
            x.go("remove 0 36 = 1; count 0 4 = 2").shape(0, "10(-,37(-,38))");
            Run y = x.anew().with(HEAP, 36, 2, 0, 37);
            y.shape(0, "36(2(0,-),37)");
            y.go("remove 0 36 = 1; count 0 4 = 2").shape(0, "37(2(0,-),-)");
        });
        s.holds("else the left one's SIZE is not the lesser", x -> {
            x.with(STILL, 2, 1, 3).go("remove 0 2 = 1; count 0 4 = 2").shape(0, "1(-,3)");
            x.anew().with(STILL, 5, 3, 8, 4).go("remove 0 5 = 1; count 0 4 = 3").shape(0, "3(-,4(-,8))");
            x.anew().with(STILL, 5, 3, 8, 9).go("remove 0 5 = 1; count 0 4 = 2").shape(0, "8(3,9)");
            x.anew().with(BALANCE, 2, 1, 3).go("remove 0 2 = 1; count 0 4 = 2").shape(0, "1(-,3)");
        });
        s.holds("else of the right one", x -> {
            x.with(STILL, 1, 2, 3).go("remove 0 1 = 1; count 0 4 = 1").shape(0, "2(-,3)");
            x.anew().with(HEAP, 3, 4).go("remove 0 3 = 1; count 0 4 = 1").shape(0, "4");
        });
    }

    private static void removeActs(Sentences s) {
        s.holds("then it is taken off, and kinds 1, 2, 3 ACT with the one it hung on, if there is.", x -> {
            for (int kind = 0; kind < KINDS; kind++) {
                x.anew().with(kind, 7).go("remove 0 7 = 1; count 0 1 = 0; count 0 2 = -1; count 0 4 = 0; add 0 7 = 0");
            }
            x.with(STILL, 4, 3, 2, 1).go("remove 0 1 = 4").shape(0, "4(3(2,-),-)");
            x.anew().with(SPLAY, 1, 2, 3, 4).go("remove 0 1 = 4; count 0 4 = 5").shape(0, "2(-,3(-,4))");
            x.anew().with(UP, 1, 2, 3).go("remove 0 1 = 3; count 0 4 = 3").shape(0, "2(-,3)");
            x.anew().with(ROOT, 1, 2, 3, 4).go("remove 0 1 = 4; count 0 4 = 5").shape(0, "2(-,4(3,-))");
            x.anew().with(ROOT, 1, 3, 2).go("remove 0 2 = 1; count 0 4 = 6").shape(0, "3(1,-)");
            x.anew().with(BALANCE, 4, 3, 2, 1).go("remove 0 1 = 4").shape(0, "4(3(2,-),-)");
            x.anew().with(HEAP, 3, 1, 0).go("remove 0 0 = 3").shape(0, "3(1,-)");
        });
        s.holds("Not found: kinds 1, 2, 3 ACT with the LAST.", x -> {
            for (int kind = 0; kind < KINDS; kind++) {
                x.anew().with(kind).go("remove 0 7 = 0; count 0 1 = 0; count 0 4 = 0");
            }
            x.with(STILL, 3, 2, 1).go("remove 0 0 = -3").shape(0, "3(2(1,-),-)");
            x.anew().with(SPLAY, 1, 2, 3).go("remove 0 0 = -3").shape(0, "1(-,2(-,3))");
            x.anew().with(UP, 1, 2, 3).go("remove 0 0 = -3").shape(0, "3(1(-,2),-)");
            x.anew().with(ROOT, 1, 2, 3).go("remove 0 0 = -3").shape(0, "1(-,3(2,-))");
            x.anew().with(BALANCE, 3, 2, 1).go("remove 0 0 = -3").shape(0, "3(2(1,-),-)");
            x.anew().with(HEAP, 3, 1, 0).go("remove 0 2 = -2").shape(0, "3(1(0,-),-)");
        });
    }

    private static void split(Sentences s) {
        s.holds("SPLIT at a KEY k: all not below k are a TREE more of that kind", x -> {
            splitInto(x, 15, "10(5,-)", "20(15,-)");
            splitInto(x, 14, "10(5,-)", "20(15,-)");
            splitInto(x, 16, "10(5,15)", "20");
            splitInto(x, 20, "10(5,15)", "20");
            splitInto(x, 21, "10(5,20(15,-))", "-");
            splitInto(x, 63, "10(5,20(15,-))", "-");
            splitInto(x, 6, "5", "10(-,20(15,-))");
            splitInto(x, 5, "-", "10(5,20(15,-))");
            splitInto(x, 0, "-", "10(5,20(15,-))");
            x.with(STILL, 0, 63, 62).go("split 0 63 = 1").shape(1, "63");
            x.shape(0, "0(-,62)");
            Run y = x.anew().with(STILL, 6, 5, 7).go("split 0 0 = 1; add 0 6 = 0");
            y.shape(0, "6");
            for (int kind = 0; kind < KINDS; kind++) {
                x.anew().with(kind).go("split 0 0 = 1").due("count 1 0", kind);
                x.anew().with(kind, 1, 2, 3).go("split 0 2 = 1; count 0 1 = 1; count 1 1 = 2").due("count 1 0", kind);
            }
        });
        s.holds("each hung on the nearest above it that goes with it (the order from the root down stays)", x -> {
            x.with(STILL, 50, 10, 60, 40, 20, 30).shape(0, "50(10(-,40(20(-,30),-)),60)");
            x.go("split 0 25 = 1").shape(0, "10(-,20)");
            x.shape(1, "50(40(30,-),60)");
            Run y = x.anew().with(STILL, 10, 60, 5, 20, 50, 30, 40, 35);
            y.shape(0, "10(5,60(20(-,50(30(-,40(35,-)),-)),-))");
            y.go("split 0 35 = 1").shape(0, "10(5,20(-,30))");
            y.shape(1, "60(50(40(35,-),-),-)");
        });
    }

    private static void join(Sentences s) {
        s.holds("JOIN of two of one kind, all KEYS of the first below all of the second", x -> {
            x.with(STILL, 4, 3).with(STILL, 5, 6).go("join 0 1 = true").shape(0, "4(3,5(-,6))");
            x.anew().with(STILL, 0).with(STILL, 63).go("join 0 1 = true").shape(0, "0(-,63)");
            x.anew().with(STILL, 3, 5).with(STILL, 5, 9).go("join 0 1 = false; join 1 0 = false");
            x.anew().with(STILL, 3, 6).with(STILL, 5, 9).go("join 0 1 = false; join 1 0 = false");
            x.anew().with(STILL, 5, 4).with(STILL, 3, 2).go("join 0 1 = false; join 1 0 = true");
        });
        s.holds("else the greatest KEY of the first is TURNED till it is the root, and the second hangs on its right", x -> {
            x.with(STILL, 1, 2, 3).with(STILL, 9, 8).go("join 0 1 = true; count 0 4 = 2").shape(0, "3(1(-,2),9(8,-))");
            x.anew().with(SPLAY, 3, 2, 1).with(SPLAY, 9).go("join 0 1 = true; count 0 4 = 4").shape(0, "3(1(-,2),9)");
            x.anew().with(UP, 3, 2, 1).with(UP, 9).go("join 0 1 = true; count 0 4 = 4").shape(0, "3(1(-,2),9)");
            x.anew().with(ROOT, 3, 2, 1).with(ROOT, 9).go("join 0 1 = true; count 0 4 = 4").shape(0, "3(1(-,2),9)");
            x.anew().with(BALANCE, 1, 2, 3).with(BALANCE, 9).go("join 0 1 = true; count 0 4 = 2").shape(0, "3(1(-,2),9)");
            x.anew().with(STILL, 3, 1, 5, 4).with(STILL, 8).go("join 0 1 = true").shape(0, "5(3(1,4),8)");
            x.anew().with(UP, 1, 2).with(UP, 5).go("join 0 1 = true; count 0 4 = 1").shape(0, "2(1,5)");
        });
        s.holds("Of an empty one the other is what comes.", x -> {
            for (int kind = 0; kind < KINDS; kind++) {
                x.anew().with(kind).with(kind).go("join 0 1 = true; count 0 1 = 0; count 1 1 = 0; count 0 2 = -1");
                x.anew().with(kind).with(kind, 0).go("join 0 1 = true; count 0 2 = 0; look 0 0 4 = 1; look 1 0 0 = throws");
                x.anew().with(kind).with(kind, 63).go("join 0 1 = true; count 0 2 = 63; look 1 63 0 = throws");
            }
            joinWithEmpty(x.anew().with(STILL, 1, 2, 3).with(STILL), 0);
            joinWithEmpty(x.anew().with(SPLAY, 3, 2, 1).with(SPLAY), 2);
            joinWithEmpty(x.anew().with(UP, 3, 2, 1).with(UP), 2);
            joinWithEmpty(x.anew().with(ROOT, 3, 2, 1).with(ROOT), 2);
            joinWithEmpty(x.anew().with(BALANCE, 1, 2, 3).with(BALANCE), 0);
            joinWithEmpty(x.anew().with(HEAP, 3, 2, 1).with(HEAP), 1);
        });
        s.holds("A TREE that was JOINED to another one is empty.", x -> {
            x.with(STILL, 1).with(STILL, 5, 6).go("join 0 1 = true; count 1 0 = 0; count 1 1 = 0; count 1 2 = -1");
            x.go("count 1 3 = 0; count 1 7 = 0; look 1 5 0 = throws; pages 1 1 5 = -1; best 1 1 = -1; ask 1 5 = 0");
            x.go("add 1 5 = 0; count 1 1 = 1; add 1 6 = 1; look 1 6 1 = 5; look 0 6 1 = 5; tree 0 = 2");
            // what hung on a key of it does not hang there when the key comes again
            Run y = x.anew().with(STILL, 1).with(STILL, 6, 5, 7).go("join 0 1 = true; add 1 6 = 0");
            y.shape(1, "6");
        });
    }

    private static void joinOfHeap(Sentences s) {
        s.holds("kind 5: of both roots that of the greater WEIGHT is the root", x -> {
            for (int low = 0; low < KEYS; low++) {
                for (int high = low + 1; high < KEYS; high++) {
                    int heavier = (37 * high + 11) % 64 > (37 * low + 11) % 64 ? high : low;
                    x.anew().with(HEAP, low).with(HEAP, high).go("join 0 1 = true").due("count 0 2", heavier);
                }
            }
        });
        // weights: 0 11, 1 48, 2 21, 4 31, 5 4, 6 41, 7 14, 9 24
        s.holds("behind the last to the right of the first one's", x -> {
            x.with(HEAP, 1, 0, 2).with(HEAP, 5, 7).go("join 0 1 = true").shape(0, "1(0,2(-,7(5,-)))");
        });
        s.holds("ahead of the first to the left of the second one's", x -> {
            x.with(HEAP, 2, 0).with(HEAP, 6, 4, 7).go("join 0 1 = true").shape(0, "6(4(2(0,-),-),7)");
        });
        s.holds("the other TREE is JOINED to its free way", x -> {
            x.with(HEAP, 1, 0, 4, 2).with(HEAP, 6, 5, 9, 7).shape(0, "1(0,4(2,-))");
            x.shape(1, "6(5,9(7,-))");
            x.go("join 0 1 = true; count 0 4 = 0").shape(0, "1(0,6(4(2,5),9(7,-)))");
        });
    }

    private static void mostAndTurns(Sentences s) {
        s.holds("For kind 4 the most is what there is then, in all TREES of SPLIT and JOIN.", x -> {
            fourOfFive(x.anew()).go("split 0 4 = 1; count 0 8 = 3; count 1 8 = 1");
            fourOfFive(x.anew()).go("split 0 63 = 1; count 0 8 = 4; count 1 8 = 0");
            fourOfFive(x.anew()).go("split 0 0 = 1; count 0 8 = 0; count 1 8 = 4");
            fourOfFive(x.anew()).with(BALANCE, 9, 10).go("join 0 1 = true; count 0 8 = 6; count 1 8 = 0");
            fourOfFive(x.anew()).with(BALANCE).go("join 0 1 = true; count 0 8 = 4; count 1 8 = 0");
            fourOfFive(x.anew()).with(BALANCE).go("join 1 0 = true; count 1 8 = 4; count 0 8 = 0");
            x.with(STILL, 1, 2).go("split 0 2 = 1; count 0 8 = 0; count 1 8 = 0; join 0 1 = true; count 0 8 = 0");
        });
        s.holds("TURNS are counted for each TREE", x -> {
            x.with(ROOT, 1, 2, 3).with(ROOT, 1, 2).with(ROOT).go("count 0 4 = 2; count 1 4 = 1; count 2 4 = 0");
        });
        s.holds("MADE EVEN, SPLIT, JOIN of kind 5 are without TURNS", x -> {
            x.with(BALANCE, 1, 2, 3, 4, 5).go("count 0 4 = 0; remove 0 5 = 4; remove 0 4 = 3; count 0 2 = 2; count 0 4 = 0");
            x.anew().with(ROOT, 1, 2, 3, 4).go("count 0 4 = 3; split 0 3 = 1; count 0 4 = 3; count 1 4 = 0");
            Run y = x.anew().with(HEAP, 0, 1).with(HEAP, 2, 3).go("count 0 4 = 1; count 1 4 = 1");
            y.go("join 0 1 = true; count 0 4 = 1; count 1 4 = 1");
        });
        s.holds("those of JOIN count for the first", x -> {
            x.with(STILL, 1, 2, 3).with(STILL, 8, 9).go("join 0 1 = true; count 0 4 = 2; count 1 4 = 0");
            x.anew().with(ROOT, 3, 2).with(ROOT, 8, 9).go("join 0 1 = true; count 0 4 = 2; count 1 4 = 1");
        });
    }

    private static void splitInto(Run x, int key, String lower, String upper) {
        Run y = x.anew().with(STILL, 10, 5, 20, 15);
        y.due("split 0 " + key, 1);
        y.shape(0, lower);
        y.shape(1, upper);
    }

    /** Tree 0 is 1(-,2(-,3)) with so many turns, but of kind 5 it is 3(1(-,2),-); tree 1 is empty. */
    private static void joinWithEmpty(Run x, int turns) {
        String shape = x.number("count 0 0") == HEAP ? "3(1(-,2),-)" : "1(-,2(-,3))";
        x.go("join 0 1 = true").shape(0, shape);
        x.due("count 0 4", turns);
        x.go("join 1 0 = true; count 1 4 = 0; count 0 1 = 0; count 0 2 = -1").shape(1, shape);
        x.due("count 0 4", turns);
    }

    /** Kind 4 with 1(-,3(2,4)), where 5 was: the most is 5. */
    private static Run fourOfFive(Run x) {
        return x.with(BALANCE, 1, 2, 3, 4, 5).go("remove 0 5 = 4; count 0 8 = 5");
    }
}
