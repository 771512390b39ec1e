import java.io.IOException;

/** Each sentence of the terms ==== 1 (keys, trees, turns, kinds) that names a boundary case, with a test of its own. */
public final class BoundaryKindsTest {
    private static final int STILL = 0;
    private static final int SPLAY = 1;
    private static final int UP = 2;
    private static final int ROOT = 3;
    private static final int BALANCE = 4;
    private static final int HEAP = 5;
    private static final int KINDS = 6;
    private static final int KEYS = 64;
    private static final int[] NO_KEYS = {-1, 64, Integer.MIN_VALUE, Integer.MAX_VALUE};

    public static void main(String[] args) throws IOException {
        Sentences sentences = new Sentences();
        sentences.under("Terms");
        keysAndTrees(sentences);
        turnsAndSizes(sentences);
        going(sentences);
        splay(sentences);
        stillUpAndRoot(sentences);
        balanceInAdd(sentences);
        madeEven(sentences);
        balanceInRemove(sentences);
        heap(sentences);
        sentences.end();
    }

    private static void keysAndTrees(Sentences s) {
        s.holds("KEYS are 0 to 63.", x -> {
            x.go("tree 0 = 0; add 0 0 = 0; add 0 63 = 1; ask 0 0 = 1; ask 0 63 = 2; look 0 0 0 = 1; look 0 63 0 = 2");
            x.go("pages 0 1 0 = 1; pages 0 1 63 = 2; keep 0 = 0; kept 0 0 = 1; kept 0 63 = 2");
            x.go("split 0 63 = 1; split 0 0 = 2; remove 1 63 = 1; remove 2 0 = 1");
            for (int key : NO_KEYS) {
                x.due("add 0 " + key, -1);
                x.due("ask 0 " + key, "throws");
                x.due("remove 0 " + key, "throws");
                x.due("split 0 " + key, -1);
                x.due("look 0 " + key + " 0", "throws");
                x.due("pages 0 1 " + key, -1);
                x.due("kept 0 " + key, -1);
            }
        });
        s.holds("TREES, 8 at most", x -> {
            x.go("tree 0 = 0; tree 1 = 1; tree 2 = 2; tree 3 = 3; tree 4 = 4; tree 5 = 5; split 0 9 = 6; split 6 9 = 7");
            x.go("tree 0 = -1; split 0 9 = -1; count 7 0 = 0; count 8 0 = -1; add 7 1 = 0; add 8 1 = -1");
        });
        s.holds("hold KEYS, each once", x -> {
            x.go("tree 0 = 0; tree 0 = 1; add 0 5 = 0; add 0 5 = -1; count 0 1 = 1; add 1 5 = 0; count 1 1 = 1");
            x.go("remove 0 5 = 1; remove 0 5 = 0; look 1 5 0 = 1; add 0 5 = 0");
        });
        s.holds("of each KEY the lesser ones hang on its left, the greater ones on its right", x -> {
            x.with(STILL, 31, 30, 32, 0, 63).shape(0, "31(30(0,-),32(-,63))");
        });
        s.holds("The DEPTH of the root is 1.", x -> {
            for (int kind = 0; kind < KINDS; kind++) {
                x.anew().with(kind, 9).go("look 0 9 0 = 1; count 0 3 = 1; ask 0 9 = 1; keep 0 = 0; kept 0 9 = 1");
            }
        });
    }

    private static void turnsAndSizes(Sentences s) {
        s.holds("it takes that one's place, which comes to hang on it, at its other side", x -> {
            x.with(UP, 10, 20, 30).shape(0, "30(20(10,-),-)");
            x.go("add 0 5 = 3").shape(0, "30(20(5(-,10),-),-)");
            x.go("ask 0 10 = 4").shape(0, "30(20(10(5,-),-),-)");
            x.go("ask 0 20 = 2").shape(0, "20(10(5,-),30)");
            x.go("add 0 40 = 2").shape(0, "20(10(5,-),40(30,-))");
        });
        s.holds("what hung on it there hangs at the free side of that one", x -> {
            x.with(UP, 10, 20, 30).go("ask 0 20 = 2; ask 0 10 = 2").shape(0, "10(-,20(-,30))");
            x.go("add 0 15 = 2").shape(0, "10(-,15(-,20(-,30)))");
            x.go("ask 0 20 = 3").shape(0, "10(-,20(15,30))");
            x.go("ask 0 20 = 2").shape(0, "20(10(-,15),30)");
            x.go("ask 0 10 = 2").shape(0, "10(-,20(15,30))");
        });
        s.holds("SIZE of a KEY: how many hang on it, on those, and so on, with itself.", x -> {
            x.with(STILL);
            for (int key = 0; key < KEYS; key++) {
                x.due("add 0 " + key, key);
            }
            for (int key = 0; key < KEYS; key++) {
                x.due("look 0 " + key + " 4", KEYS - key);
            }
        });
    }

    private static void going(Sentences s) {
        s.holds("until it is found or there is none: the COST is how many KEYS were gone through", x -> {
            x.go("tree 0 = 0; ask 0 0 = 0; remove 0 0 = 0; add 0 10 = 0; ask 0 10 = 1; ask 0 9 = -1; ask 0 11 = -1");
            Run y = x.anew().with(STILL);
            for (int key = 0; key < KEYS; key++) {
                y.due("add 0 " + key, key);
            }
            y.go("ask 0 0 = 1; ask 0 1 = 2; ask 0 62 = 63; ask 0 63 = 64; remove 0 63 = 64; ask 0 63 = -63");
        });
        s.holds("the LAST is the one at which it ended", x -> {
            x.with(ROOT, 10, 30, 20).shape(0, "20(10,30)");
            x.go("ask 0 15 = -2").shape(0, "10(-,20(-,30))");
            x.go("ask 0 15 = -2").shape(0, "20(10,30)");
            x.go("ask 0 25 = -2").shape(0, "30(20(10,-),-)");
            x.go("ask 0 63 = -1").shape(0, "30(20(10,-),-)");
        });
    }

    private static void splay(Sentences s) {
        s.holds("1 SPLAY: until it is the root", x -> {
            x.with(SPLAY, 1, 2, 3, 4, 5, 6).shape(0, "6(5(4(3(2(1,-),-),-),-),-)");
            x.go("count 0 4 = 5; ask 0 6 = 1; count 0 4 = 5; ask 0 1 = 6; count 0 4 = 10");
            x.shape(0, "1(-,6(4(2(-,3),5),-))");
        });
        s.holds("without one above its upper one: a TURN of it", x -> {
            x.with(SPLAY, 1, 2).shape(0, "2(1,-)");
            x.go("ask 0 1 = 2; count 0 4 = 2").shape(0, "1(-,2)");
            x.go("ask 0 2 = 2; count 0 4 = 3").shape(0, "2(1,-)");
        });
        s.holds("if it and its upper one hang at the same side: a TURN of the upper one, then of it", x -> {
            x.with(SPLAY, 1, 2, 3, 4, 5).go("ask 0 1 = 5; count 0 4 = 8").shape(0, "1(-,4(2(-,3),5))");
            Run y = x.anew().with(SPLAY, 5, 4, 3, 2, 1).go("ask 0 5 = 5; count 0 4 = 8");
            y.shape(0, "5(2(1,4(3,-)),-)");
        });
        s.holds("else two TURNS of it", x -> {
            x.with(SPLAY, 1, 3).go("add 0 2 = 2; count 0 4 = 3").shape(0, "2(1,3)");
            x.anew().with(SPLAY, 3, 1).go("add 0 2 = 2; count 0 4 = 3").shape(0, "2(1,3)");
            // both TURNS come ahead of what is above: one TURN and a look anew would go on at the same side
            Run y = x.anew().with(SPLAY, 2).with(SPLAY, 3).with(SPLAY, 4, 6).go("join 1 2 = true; join 0 1 = true");
            y.shape(0, "2(-,3(-,6(4,-)))");
            y.go("ask 0 4 = 4; count 0 4 = 3").shape(0, "4(2(-,3),6)");
        });
    }

    private static void stillUpAndRoot(Sentences s) {
        s.holds("0 STILL: nothing.", x -> {
            x.with(STILL, 1, 2, 3).go("ask 0 3 = 3; ask 0 9 = -3; remove 0 9 = -3; add 0 4 = 3; count 0 4 = 0");
            x.shape(0, "1(-,2(-,3(-,4)))");
        });
        s.holds("2 UP: one TURN of it, unless it is the root.", x -> {
            x.with(UP, 1, 2, 3).go("count 0 4 = 2; ask 0 3 = 1; count 0 4 = 2").shape(0, "3(2(1,-),-)");
            x.go("ask 0 1 = 3; count 0 4 = 3").shape(0, "3(1(-,2),-)");
            x.go("ask 0 1 = 2; count 0 4 = 4; ask 0 1 = 1; count 0 4 = 4").shape(0, "1(-,3(2,-))");
        });
        s.holds("3 ROOT: TURNS of it until it is the root.", x -> {
            x.with(ROOT, 1, 2, 3, 4, 5).go("count 0 4 = 4; ask 0 5 = 1; count 0 4 = 4");
            x.go("ask 0 1 = 5; count 0 4 = 8").shape(0, "1(-,5(4(3(2,-),-),-))");
        });
    }

    private static void balanceInAdd(Sentences s) {
        s.holds("4 BALANCE: nothing but in ADD", x -> {
            x.with(BALANCE, 1, 2, 3, 4).go("ask 0 4 = 4; ask 0 9 = -4; remove 0 9 = -4; count 0 4 = 0");
            x.shape(0, "1(-,2(-,3(-,4)))");
        });
        s.holds("with n KEYS (it, too) and its DEPTH d", x -> {
            // 81 is above 5 * 16, but not above 6 * 16
            x.with(BALANCE, 1, 2, 3, 4, 5).go("add 0 6 = 4").shape(0, "1(-,3(2,4(-,5(-,6))))");
            // 2187 is above 17 * 128, but not above 18 * 128
            addUnderChain(x.anew(), 7, 10).go("look 0 0 1 = 1; look 0 1 1 = 2; look 0 2 1 = 3; look 0 3 1 = 4");
        });
        s.holds("if 3 to the (d - 1) is above n times 2 to the (d - 1)", x -> {
            x.with(BALANCE, 1, 2, 3, 4).shape(0, "1(-,2(-,3(-,4)))");
            x.go("add 0 5 = 4").shape(0, "1(-,3(2,4(-,5)))");
            addUnderChain(x.anew(), 7, 9).go("look 0 0 1 = 1; look 0 1 1 = 4; look 0 2 1 = 1; look 0 3 1 = 2");
            // 59049 is above 57 * 1024, but not above 58 * 1024
            addUnderChain(x.anew(), 10, 46).go("look 0 0 1 = 1; look 0 1 1 = 4; look 0 2 1 = 1; look 0 3 1 = 2");
            addUnderChain(x.anew(), 10, 47).go("look 0 0 1 = 1; look 0 1 1 = 2; look 0 2 1 = 3; look 0 3 1 = 4");
            // 3 to the 20 is beyond an int, 3 to the 40 beyond a long, and so is 2 to the 62 times 64
            for (int depth : new int[] {19, 20, 21, 31, 32, 33, 39, 40, 41, 61, 62}) {
                addUnderChain(x.anew(), depth, 1).go("look 0 1 1 = 4; look 0 2 1 = 1; look 0 3 1 = 2");
            }
        });
        s.holds("of the KEYS above it, from it up, the first x", x -> {
            // 3, 4, 5 and 6 all are lopsided: the lowest of them is made even, the others stay
            addUnderChain(x, 7, 1).shape(0, "7(6(5(4(1(0,2(-,3)),-),-),-),8)");
        });
        s.holds("with one hanging on it of whose SIZE 3 times is above 2 times that of x", x -> {
            // on 3 hang 2 of its 3, and 6 is not above 6; on 2 hang 3 of its 4, and 9 is above 8
            x.with(BALANCE, 1, 2, 3, 4, 5).shape(0, "1(-,3(2,4(-,5)))");
            x.anew().with(BALANCE, 5, 4, 3, 2, 1).shape(0, "5(2(1,3(-,4)),-)");
            // the one on 10 that is too great, with 5 of its 7, is not on the way to the new key
            Run y = x.anew().with(BALANCE, 10, 11, 12, 13, 14, 15, 16).with(BALANCE);
            y.shape(0, "10(-,12(11,14(13,15(-,16))))");
            for (int key = 17; key <= 22; key++) {
                y.go("add 1 " + key + " = 0; join 0 1 = true");
            }
            y.go("add 0 5 = 7").shape(0, "21(20(19(18(17(16(12(10(5,11),14(13,15)),-),-),-),-),-),22)");
        });
    }

    private static void madeEven(Sentences s) {
        s.holds("all that hangs on x, with x, is MADE EVEN in its place (of the root: all is)", x -> {
            // With 64 keys the root is never the first x of an ADD: all is made even in REMOVE alone.
            x.with(BALANCE, 1, 2, 3, 4, 5).shape(0, "1(-,3(2,4(-,5)))");
            x.anew().with(BALANCE, 5, 4, 3, 2, 1).shape(0, "5(2(1,3(-,4)),-)");
            x.anew().with(BALANCE, 1, 2, 3, 4, 5).go("remove 0 5 = 4; remove 0 4 = 3").shape(0, "2(1,3)");
        });
        s.holds("the root is the middle one (of two the lesser), so too on both sides", x -> {
            leaveOf(x, 2, 1).shape(0, "1");
            leaveOf(x, 4, 2).shape(0, "1(-,2)");
            leaveOf(x, 5, 3).shape(0, "2(1,3)");
            leaveOf(x, 7, 4).shape(0, "2(1,3(-,4))");
            leaveOf(x, 8, 5).shape(0, "3(1(-,2),4(-,5))");
            leaveOf(x, 10, 6).shape(0, "3(1(-,2),5(4,6))");
            leaveOf(x, 11, 7).shape(0, "4(2(1,3),6(5,7))");
            leaveOf(x, 13, 8).shape(0, "4(2(1,3),6(5,7(-,8)))");
            leaveOf(x, 63, 41).go("count 0 2 = 21; count 0 3 = 6; look 0 21 2 = 10; look 0 21 3 = 31; look 0 41 1 = 40");
        });
    }

    private static void balanceInRemove(Sentences s) {
        s.holds("if 3 times the KEYS that are left are below 2 times the most", x -> {
            // 6 is not below 6; 9 is not below 8, 6 is; 12 is not below 10, 9 is
            x.with(BALANCE, 3, 2, 1).go("remove 0 3 = 1; count 0 8 = 3").shape(0, "2(1,-)");
            Run y = x.anew().with(BALANCE, 4, 3, 2, 1).go("remove 0 4 = 1; count 0 8 = 4");
            y.shape(0, "3(2(1,-),-)");
            y.go("remove 0 3 = 1; count 0 8 = 2").shape(0, "1(-,2)");
            Run z = x.anew().with(BALANCE, 1, 2, 3, 4, 5).go("remove 0 5 = 4; count 0 8 = 5");
            z.shape(0, "1(-,3(2,4))");
            z.go("remove 0 4 = 3; count 0 8 = 3").shape(0, "2(1,3)");
            x.anew().with(BALANCE, 3).go("remove 0 3 = 1; count 0 8 = 0; count 0 2 = -1; add 0 3 = 0; count 0 8 = 1");
        });
        s.holds("the most since it was all MADE EVEN (or came to be)", x -> {
            x.go("tree 4 = 0; count 0 8 = 0; add 0 1 = 0; count 0 8 = 1; add 0 2 = 1; add 0 3 = 2; count 0 8 = 3");
            x.go("remove 0 3 = 3; count 0 8 = 3; add 0 3 = 2; count 0 8 = 3; add 0 4 = 3; add 0 5 = 4; count 0 8 = 5");
            x.go("remove 0 5 = 4; count 0 8 = 5; remove 0 4 = 3; count 0 8 = 3; add 0 6 = 2; count 0 8 = 4");
            x.go("remove 0 6 = 3; count 0 8 = 4");
            // of 7 keys 4 are made even, not all: the most is 8 still
            Run y = x.anew().with(BALANCE).with(BALANCE);
            for (int key = 1; key <= 8; key++) {
                y.go("add 1 " + key + " = 0; join 0 1 = true");
            }
            y.go("remove 0 8 = 2; remove 0 7 = 1; add 0 0 = 6; count 0 8 = 8");
            y.shape(0, "6(5(4(1(0,2(-,3)),-),-),-)");
        });
    }

    private static void heap(Sentences s) {
        s.holds("its WEIGHT (37 * KEY + 11, modulo 64)", x -> {
            for (int key = 0; key < KEYS; key++) {
                for (int other = 0; other < KEYS; other++) {
                    if (other != key) {
                        int heavier = (37 * other + 11) % 64 > (37 * key + 11) % 64 ? other : key;
                        x.anew().with(HEAP, key, other).due("count 0 2", heavier);
                    }
                }
            }
        });
        // weights: 3 58, 12 7, 17 0, 36 63
        s.holds("is above that of its upper one: a TURN of it", x -> {
            x.with(HEAP, 36, 17).go("count 0 4 = 0; add 0 3 = 2; count 0 4 = 1").shape(0, "36(3(-,17),-)");
            x.anew().with(HEAP, 17, 12).go("count 0 4 = 1; add 0 36 = 2; count 0 4 = 3").shape(0, "36(12(-,17),-)");
        });
        s.holds("only in ADD", x -> {
            x.with(HEAP, 36, 17, 3).go("ask 0 17 = 3; ask 0 3 = 2; ask 0 16 = -3; remove 0 16 = -3; count 0 4 = 1");
            x.shape(0, "36(3(-,17),-)");
        });
    }

    /** Joins make a chain down to key 1, so deep, with others beside it; then key 0 is added at its end. */
    private static Run addUnderChain(Run x, int depth, int others) {
        x.with(BALANCE).with(BALANCE);
        for (int key = 1; key <= depth; key++) {
            x.go("add 1 " + key + " = 0; join 0 1 = true");
        }
        for (int key = depth + 1; key <= depth + others; key++) {
            x.number("add 1 " + key);
        }
        x.go("join 0 1 = true");
        x.due("add 0 0", depth);
        return x;
    }

    /** Of so many keys, added from the greatest down, the greatest are removed until so few are left. */
    private static Run leaveOf(Run x, int all, int left) {
        Run y = x.anew().with(BALANCE);
        for (int key = all; key >= 1; key--) {
            y.number("add 0 " + key);
        }
        for (int key = all; key > left; key--) {
            y.due("count 0 8", all);
            y.number("remove 0 " + key);
        }
        y.due("count 0 8", left);
        return y;
    }
}
