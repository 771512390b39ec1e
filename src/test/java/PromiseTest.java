import java.util.NoSuchElementException;

/** Each promise of the document: ordinary inputs, the edges that it names, and wrong inputs. */
public final class PromiseTest {
    private static final int STILL = 0;
    private static final int SPLAY = 1;
    private static final int UP = 2;
    private static final int ROOT = 3;
    private static final int BALANCE = 4;
    private static final int HEAP = 5;
    private static final int[] WRONG_KEYS = {-1, 64, 65, Integer.MIN_VALUE, Integer.MAX_VALUE};
    private static final int[] WRONG_TREES = {-1, 1, 7, 8, 9, Integer.MIN_VALUE, Integer.MAX_VALUE};

    private static int wrong = 0;
    private static String part = "";

    private interface Call {
        int answer();
    }

    public static void main(String[] args) {
        promise1NewObject();
        promise2Tree();
        promise3Add();
        promise3AddOfBalance();
        promise4Ask();
        promise5Remove();
        promise5RemoveOfBalance();
        promise6Split();
        promise7Join();
        promise7JoinWrong();
        promise7JoinOfHeap();
        promise7JoinOfBalance();
        promise8Clear();
        promise9Look();
        promise10Count();
        promise11Best();
        promise12Interleave();
        promise13Sweep();
        promise14Pages();
        promise15Keep();
        promise16Kept();
        System.out.println(wrong == 0 ? "all promises hold" : wrong + " answers are not as due");
        if (wrong != 0) {
            System.exit(1);
        }
    }

    private static void promise1NewObject() {
        part = "promise 1";
        TurningTrees x = new TurningTrees();
        due("NONE", TurningTrees.NONE, -1);
        for (int tree = -1; tree <= 8; tree++) {
            due("count of tree " + tree, x.count(tree, 0), -1);
        }
        due("no tree is kept", x.kept(0, 0), -1);
        due("the first tree", x.tree(STILL), 0);
        due("another object has none", new TurningTrees().count(0, 0), -1);
    }

    private static void promise2Tree() {
        part = "promise 2";
        TurningTrees x = new TurningTrees();
        for (int kind : new int[] {-1, 6, 7, Integer.MIN_VALUE, Integer.MAX_VALUE}) {
            due("kind " + kind, x.tree(kind), -1);
        }
        for (int number = 0; number < 8; number++) {
            due("tree " + number, x.tree(number % 6), number);
            due("its kind", x.count(number, 0), number % 6);
            due("it is empty", x.count(number, 1), 0);
        }
        due("a ninth", x.tree(STILL), -1);
        due("a ninth number", x.count(8, 0), -1);
        due("an empty one is there still", x.join(0, 6) ? 1 : 0, 1);
        due("so a ninth is refused", x.tree(STILL), -1);
    }

    private static void promise3Add() {
        part = "promise 3";
        TurningTrees x = with(STILL, 10, 5, 20);
        due("cost of a way of two", x.add(0, 7), 2);
        due("cost of a way of three", x.add(0, 8), 3);
        due("it is there", x.add(0, 8), -1);
        for (int tree : WRONG_TREES) {
            due("add to tree " + tree, x.add(tree, 1), -1);
        }
        for (int key : WRONG_KEYS) {
            due("add of key " + key, x.add(0, key), -1);
        }
        shape(x, 0, "10(5(-,7(-,8)),20)");

        x = with(SPLAY, 1, 2, 3);
        due("add of what is there turns nothing", x.add(0, 1), -1);
        shape(x, 0, "3(2(1,-),-)");
        due("the lowest", x.add(0, 0), 3);
        shape(x, 0, "0(-,3(1(-,2),-))");
        due("the greatest", x.add(0, 63), 2);
        shape(x, 0, "63(3(0(-,1(-,2)),-),-)");
        due("turns", x.count(0, 4), 7);

        x = with(UP, 4, 2, 6);
        shape(x, 0, "2(-,6(4,-))");
        due("turns of up", x.count(0, 4), 2);

        x = with(ROOT, 4, 2, 6, 3);
        shape(x, 0, "3(2,6(4,-))");
        due("turns of root", x.count(0, 4), 6);

        // weights: 0 11, 1 48, 2 21, 3 58, 4 31, 5 4
        x = with(HEAP, 5, 4, 3, 2, 1, 0);
        shape(x, 0, "3(1(0,2),4(-,5))");
        due("turns of heap", x.count(0, 4), 3);
    }

    private static void promise3AddOfBalance() {
        part = "promise 3, kind 4";
        TurningTrees x = with(BALANCE, 1, 2, 3, 4);
        shape(x, 0, "1(-,2(-,3(-,4)))");
        due("81 is above 80", x.add(0, 5), 4);
        shape(x, 0, "1(-,3(2,4(-,5)))");
        due("evened without turns", x.count(0, 4), 0);

        // 81 is not above 6 * 16
        due("the sixth", x.add(0, 6), 4);
        shape(x, 0, "1(-,3(2,4(-,5(-,6))))");
        // 243 is above 7 * 32; 5 and 4 and 3 are not lopsided (6 > 6, 9 > 10 ..)
        due("the seventh", x.add(0, 7), 5);
        shape(x, 0, "1(-,3(2,5(4,6(-,7))))");
        due("the most", x.count(0, 8), 7);

        // a chain that joins have made: 49 deep, where 3 to the 48 is beyond a long
        x = new TurningTrees();
        x.tree(BALANCE);
        x.tree(BALANCE);
        for (int key = 10; key < 60; key++) {
            x.add(1, key);
            x.join(0, 1);
        }
        due("depth of the chain", x.count(0, 3), 49);
        due("add under the chain", x.add(0, 1), 49);
        // the first lopsided one above 1 is 12: 1 hangs on 10, 10 on 11, 11 on 12
        due("what is evened", x.look(0, 1, 1), 10);
        due("the middle of 1, 10, 11, 12", x.look(0, 10, 1), 13);
        due("its right", x.look(0, 10, 3), 11);
        due("the last", x.look(0, 12, 1), 11);
    }

    private static void promise4Ask() {
        part = "promise 4";
        TurningTrees x = with(STILL, 10, 5, 20, 7);
        due("found", x.ask(0, 7), 3);
        due("the root", x.ask(0, 10), 1);
        due("not found", x.ask(0, 15), -2);
        shape(x, 0, "10(5(-,7),20)");
        final TurningTrees y = x;
        for (int tree : WRONG_TREES) {
            noSuch("ask of tree " + tree, () -> y.ask(tree, 1));
        }
        for (int key : WRONG_KEYS) {
            noSuch("ask of key " + key, () -> y.ask(0, key));
        }
        due("wrong asks cost nothing", x.count(0, 5), 6);
        due("wrong asks are not written", x.count(0, 6), 3);

        for (int kind = 0; kind < 6; kind++) {
            x = with(kind);
            due("an empty one", x.ask(0, 3), 0);
            due("is written", x.count(0, 6), 1);
        }

        x = with(SPLAY, 1, 2, 3, 4);
        due("found at the end", x.ask(0, 1), 4);
        shape(x, 0, "1(-,4(2(-,3),-))");
        due("its last is the root", x.ask(0, 0), -1);
        due("not found: the last is splayed", x.ask(0, 63), -2);
        shape(x, 0, "4(1(-,2(-,3)),-)");

        x = with(UP, 1, 2, 3);
        due("not found", x.ask(0, 0), -3);
        shape(x, 0, "3(1(-,2),-)");

        x = with(ROOT, 1, 2, 3);
        due("not found", x.ask(0, 0), -3);
        shape(x, 0, "1(-,3(2,-))");

        x = with(BALANCE, 1, 2, 3);
        due("balance asks still", x.ask(0, 3), 3);
        shape(x, 0, "1(-,2(-,3))");
        x = with(HEAP, 0, 1, 2, 3);
        due("heap asks still", x.ask(0, 2), 3);
        shape(x, 0, "3(1(0,2),-)");
    }

    private static void promise5Remove() {
        part = "promise 5";
        TurningTrees x = with(STILL, 5, 3, 8, 4);
        due("found", x.remove(0, 5), 1);
        shape(x, 0, "3(-,4(-,8))");
        due("three turns", x.count(0, 4), 3);
        due("not found", x.remove(0, 5), -3);
        shape(x, 0, "3(-,4(-,8))");
        final TurningTrees y = x;
        for (int tree : WRONG_TREES) {
            noSuch("remove of tree " + tree, () -> y.remove(tree, 3));
        }
        for (int key : WRONG_KEYS) {
            noSuch("remove of key " + key, () -> y.remove(0, key));
        }
        due("no cost of asks", x.count(0, 5), 0);
        due("nothing in the row", x.count(0, 6), 0);

        x = with(STILL, 5, 3, 8, 9);
        due("the right one is the greater", x.remove(0, 5), 1);
        shape(x, 0, "8(3,9)");

        for (int kind = 0; kind < 6; kind++) {
            x = with(kind);
            due("of an empty one", x.remove(0, 3), 0);
            x.add(0, 3);
            due("the only one", x.remove(0, 3), 1);
            due("empty again", x.count(0, 2), -1);
            due("without keys", x.count(0, 1), 0);
        }

        x = with(SPLAY, 1, 2, 3, 4);
        due("a leaf", x.remove(0, 1), 4);
        shape(x, 0, "2(-,3(-,4))");
        due("not found", x.remove(0, 60), -3);
        shape(x, 0, "4(3(2,-),-)");

        x = with(UP, 1, 2, 3);
        due("the one it hung on goes up", x.remove(0, 1), 3);
        shape(x, 0, "2(-,3)");
        x = with(ROOT, 1, 2, 3, 4);
        due("the one it hung on is the root", x.remove(0, 1), 4);
        shape(x, 0, "2(-,4(3,-))");

        // weights: 0 11, 1 48, 2 21, 3 58, 4 31, 5 4
        x = with(HEAP, 0, 1, 2, 3, 4, 5);
        due("by weight, not by size", x.remove(0, 3), 1);
        shape(x, 0, "1(0,4(2,5))");
    }

    private static void promise5RemoveOfBalance() {
        part = "promise 5, kind 4";
        TurningTrees x = with(BALANCE, 1, 2, 3, 4, 5);
        due("12 is not below 10", x.remove(0, 5), 4);
        shape(x, 0, "1(-,3(2,4))");
        due("the most stays", x.count(0, 8), 5);
        due("not found", x.remove(0, 5), -3);
        due("9 is below 10", x.remove(0, 4), 3);
        shape(x, 0, "2(1,3)");
        due("the most is anew", x.count(0, 8), 3);
        due("6 is not below 6", x.remove(0, 2), 1);
        due("the most stays", x.count(0, 8), 3);
        due("3 is below 6", x.remove(0, 1), 1);
        due("the most is anew", x.count(0, 8), 1);
        due("the last", x.remove(0, 3), 1);
        due("no most", x.count(0, 8), 0);
    }

    private static void promise6Split() {
        part = "promise 6";
        TurningTrees x = with(STILL, 10, 4, 20, 2, 7, 15, 30, 12, 17);
        due("ask before", x.ask(0, 12), 4);
        due("split in the midst", x.split(0, 15), 1);
        shape(x, 0, "10(4(2,7),12)");
        shape(x, 1, "20(15(-,17),30)");
        due("kind", x.count(1, 0), STILL);
        due("row stays", x.count(0, 6), 1);
        due("row is new", x.count(1, 6), 0);
        due("costs stay", x.count(0, 5), 4);
        due("costs are new", x.count(1, 5), 0);
        due("size", x.look(0, 10, 4), 5);
        due("at 0", x.split(1, 0), 2);
        shape(x, 1, "-");
        shape(x, 2, "20(15(-,17),30)");
        due("at 63", x.split(2, 63), 3);
        shape(x, 2, "20(15(-,17),30)");
        shape(x, 3, "-");
        due("an empty one", x.split(3, 5), 4);
        for (int tree : new int[] {-1, 5, 8, Integer.MIN_VALUE, Integer.MAX_VALUE}) {
            due("split of tree " + tree, x.split(tree, 5), -1);
        }
        for (int key : WRONG_KEYS) {
            due("split at " + key, x.split(0, key), -1);
        }
        due("wrong ones made no tree", x.tree(BALANCE), 5);
        x.tree(STILL);
        x.tree(STILL);
        due("8 are there", x.split(0, 5), -1);
        shape(x, 0, "10(4(2,7),12)");

        x = with(ROOT, 1, 2, 3, 4);
        due("turns before", x.count(0, 4), 3);
        due("split", x.split(0, 3), 1);
        due("no turns", x.count(0, 4), 3);
        due("no turns there", x.count(1, 4), 0);
        shape(x, 0, "2(1,-)");
        shape(x, 1, "4(3,-)");

        x = with(BALANCE, 1, 2, 3, 4, 5);
        x.remove(0, 5);
        due("split", x.split(0, 4), 1);
        due("the most of the lower", x.count(0, 8), 3);
        due("the most of the upper", x.count(1, 8), 1);
        shape(x, 0, "1(-,3(2,-))");
    }

    private static void promise7Join() {
        part = "promise 7";
        TurningTrees x = with(STILL, 3, 1, 5, 4);
        x.tree(STILL);
        x.add(1, 8);
        x.add(1, 7);
        x.ask(1, 9);
        due("join", x.join(0, 1) ? 1 : 0, 1);
        shape(x, 0, "5(3(1,4),8(7,-))");
        due("turns of the first", x.count(0, 4), 1);
        due("turns of the other", x.count(1, 4), 0);
        due("size", x.look(0, 5, 4), 6);
        shape(x, 1, "-");
        due("its asks stay with it", x.count(1, 6), 1);
        due("its costs stay with it", x.count(1, 5), 1);
        due("an empty second", x.join(0, 1) ? 1 : 0, 1);
        shape(x, 0, "5(3(1,4),8(7,-))");
        due("without turns", x.count(0, 4), 1);
        due("an empty first", x.join(1, 0) ? 1 : 0, 1);
        shape(x, 1, "5(3(1,4),8(7,-))");
        shape(x, 0, "-");
        due("what was emptied takes keys", x.add(0, 8), 0);
        due("equal keys are not below", x.join(1, 0) ? 1 : 0, 0);
        shape(x, 0, "8");

        x = with(SPLAY, 3, 2, 1);
        x.tree(SPLAY);
        x.add(1, 9);
        shape(x, 0, "1(-,2(-,3))");
        due("turned till it is the root, not splayed", x.join(0, 1) ? 1 : 0, 1);
        shape(x, 0, "3(1(-,2),9)");
    }

    private static void promise7JoinWrong() {
        part = "promise 7, wrong";
        TurningTrees x = with(STILL, 3, 9);
        x.tree(STILL);
        x.add(1, 5);
        x.tree(SPLAY);
        due("the same one", x.join(0, 0) ? 1 : 0, 0);
        due("of two kinds", x.join(0, 2) ? 1 : 0, 0);
        due("of two kinds, turned round", x.join(2, 0) ? 1 : 0, 0);
        due("not so ordered", x.join(0, 1) ? 1 : 0, 0);
        due("not so ordered, turned round", x.join(1, 0) ? 1 : 0, 0);
        for (int tree : new int[] {-1, 3, 8, Integer.MIN_VALUE, Integer.MAX_VALUE}) {
            due("join of " + tree, x.join(tree, 1) ? 1 : 0, 0);
            due("join to " + tree, x.join(1, tree) ? 1 : 0, 0);
            due("join of none to none", x.join(tree, tree) ? 1 : 0, 0);
        }
        shape(x, 0, "3(-,9)");
        shape(x, 1, "5");
    }

    private static void promise7JoinOfHeap() {
        part = "promise 7, kind 5";
        // weights: 0 11, 1 48, 2 21, 3 58, 4 31, 5 4, 6 41, 7 14
        TurningTrees x = with(HEAP, 0, 1, 2, 3);
        x.tree(HEAP);
        for (int key = 4; key < 8; key++) {
            x.add(1, key);
        }
        shape(x, 0, "3(1(0,2),-)");
        shape(x, 1, "6(4(-,5),7)");
        int turns = x.count(0, 4);
        due("join", x.join(0, 1) ? 1 : 0, 1);
        shape(x, 0, "3(1(0,2),6(4(-,5),7))");
        due("without turns", x.count(0, 4), turns);

        x = with(HEAP, 0, 2, 5);
        x.tree(HEAP);
        x.add(1, 6);
        x.add(1, 7);
        shape(x, 0, "2(0,5)");
        shape(x, 1, "6(-,7)");
        due("the second one's root", x.join(0, 1) ? 1 : 0, 1);
        shape(x, 0, "6(2(0,5),7)");
        due("size", x.look(0, 6, 4), 5);
        due("an empty second", x.join(0, 1) ? 1 : 0, 1);
        due("an empty first", x.join(1, 0) ? 1 : 0, 1);
        shape(x, 1, "6(2(0,5),7)");
    }

    private static void promise7JoinOfBalance() {
        part = "promise 7, kind 4";
        TurningTrees x = with(BALANCE, 1, 2, 3, 4, 5);
        x.tree(BALANCE);
        x.add(1, 9);
        x.add(1, 10);
        x.remove(0, 5);
        due("the most before", x.count(0, 8), 5);
        due("join", x.join(0, 1) ? 1 : 0, 1);
        due("the most is what there is", x.count(0, 8), 6);
        due("of the emptied one too", x.count(1, 8), 0);
        shape(x, 0, "4(1(-,3(2,-)),9(-,10))");
        x.remove(0, 10);
        due("the most before", x.count(0, 8), 6);
        due("an empty second", x.join(0, 1) ? 1 : 0, 1);
        due("the most is what there is", x.count(0, 8), 5);
    }

    private static void promise8Clear() {
        part = "promise 8";
        TurningTrees x = with(STILL, 5, 9);
        due("nothing yet", x.clear(0), 0);
        x.ask(0, 5);
        x.ask(0, 9);
        x.ask(0, 1);
        due("three", x.clear(0), 3);
        due("cleared", x.clear(0), 0);
        due("row", x.count(0, 6), 0);
        due("costs stay", x.count(0, 5), 4);
        for (int tree : WRONG_TREES) {
            due("clear of tree " + tree, x.clear(tree), -1);
        }
        for (int i = 0; i < 100; i++) {
            x.ask(0, 5);
        }
        due("100 are written", x.count(0, 6), 100);
        due("the 101st goes", x.ask(0, 9), 2);
        due("and is not written", x.count(0, 6), 100);
        due("the row is of 5 alone", x.interleave(0), 0);
        due("and costs", x.count(0, 5), 106);
        due("100", x.clear(0), 100);
        x.ask(0, 9);
        due("written again", x.count(0, 6), 1);
    }

    private static void promise9Look() {
        part = "promise 9";
        TurningTrees x = with(STILL, 0, 63, 30, 20, 40);
        due("depth of the root", x.look(0, 0, 0), 1);
        due("above the root", x.look(0, 0, 1), -1);
        due("left of the root", x.look(0, 0, 2), -1);
        due("right of the root", x.look(0, 0, 3), 63);
        due("size of the root", x.look(0, 0, 4), 5);
        due("depth", x.look(0, 30, 0), 3);
        due("above", x.look(0, 30, 1), 63);
        due("left", x.look(0, 30, 2), 20);
        due("right", x.look(0, 30, 3), 40);
        due("size", x.look(0, 30, 4), 3);
        due("size of a leaf", x.look(0, 40, 4), 1);
        for (int what : new int[] {-1, 5, Integer.MIN_VALUE, Integer.MAX_VALUE}) {
            noSuch("what " + what, () -> x.look(0, 30, what));
        }
        for (int key : WRONG_KEYS) {
            noSuch("key " + key, () -> x.look(0, key, 0));
        }
        noSuch("a key that is not there", () -> x.look(0, 31, 0));
        for (int tree : WRONG_TREES) {
            noSuch("tree " + tree, () -> x.look(tree, 30, 0));
        }
        x.remove(0, 30);
        noSuch("a key that was removed", () -> x.look(0, 30, 4));
    }

    private static void promise10Count() {
        part = "promise 10";
        TurningTrees x = with(SPLAY, 1, 2, 3, 4);
        x.ask(0, 1);
        x.ask(0, 9);
        x.ask(0, 9);
        x.clear(0);
        x.ask(0, 9);
        int[] due = {1, 4, 4, 4, 7, 8, 1, 4, 0};
        for (int what = 0; what < due.length; what++) {
            due("what " + what, x.count(0, what), due[what]);
        }
        for (int what : new int[] {-1, 9, Integer.MIN_VALUE, Integer.MAX_VALUE}) {
            due("what " + what, x.count(0, what), -1);
        }
        for (int tree : WRONG_TREES) {
            due("tree " + tree, x.count(tree, 1), -1);
        }
        x = with(BALANCE);
        int[] empty = {4, 0, -1, 0, 0, 0, 0, 0, 0};
        for (int what = 0; what < empty.length; what++) {
            due("empty, what " + what, x.count(0, what), empty[what]);
        }
        x = with(STILL, 1, 2, 3, 4, 5, 6, 7, 8);
        due("potential of sizes 8 to 1", x.count(0, 7), 3 + 2 + 2 + 2 + 2 + 1 + 1);
        for (int key = 9; key < 64; key++) {
            x.add(0, key);
        }
        x.add(0, 0);
        due("all keys", x.count(0, 1), 64);
        due("greatest depth", x.count(0, 3), 63);
    }

    private static void promise11Best() {
        part = "promise 11";
        TurningTrees x = with(STILL);
        due("sum without keys", x.best(0, 0), 0);
        due("root without keys", x.best(0, 1), -1);
        x.ask(0, 5);
        due("sum of an ask without keys", x.best(0, 0), 0);
        for (int key = 1; key <= 7; key++) {
            x.add(0, key);
        }
        x.clear(0);
        due("sum without asks", x.best(0, 0), 0);
        due("the least root without asks", x.best(0, 1), 1);
        for (int key = 1; key <= 7; key++) {
            x.ask(0, key);
        }
        x.ask(0, 60);
        due("each once: 1 + 2 * 2 + 4 * 3", x.best(0, 0), 17);
        due("the even one", x.best(0, 1), 4);
        x.ask(0, 7);
        x.ask(0, 7);
        x.ask(0, 7);
        // 4 (2 (1, 3), 7 (5 (-, 6), -)): 1 + 2 + 3 + 3 + 4 * 2 + 3 + 4; 5 and 7 can be the root too
        due("7 is asked four times", x.best(0, 0), 24);
        due("the least of 4, 5, 7", x.best(0, 1), 4);
        x.remove(0, 7);
        due("asks of what is gone do not count", x.best(0, 0), 14);
        due("3 and 4 both can be", x.best(0, 1), 3);
        for (int what : new int[] {-1, 2, Integer.MIN_VALUE, Integer.MAX_VALUE}) {
            due("what " + what, x.best(0, what), -1);
        }
        for (int tree : WRONG_TREES) {
            due("tree " + tree, x.best(tree, 0), -1);
        }
    }

    private static void promise12Interleave() {
        part = "promise 12";
        TurningTrees x = with(STILL, 1);
        due("an empty row", x.interleave(0), 0);
        x.ask(0, 0);
        due("one ask", x.interleave(0), 0);
        x.ask(0, 63);
        due("the first halves", x.interleave(0), 1);
        x.ask(0, 1);
        due("back, and in the span of 0 and 1", x.interleave(0), 3);
        x.ask(0, 31);
        due("in the span of 0 to 31", x.interleave(0), 4);
        x.ask(0, 32);
        due("up, and back in the span of 32 to 63", x.interleave(0), 6);
        x.ask(0, 32);
        due("the same once more", x.interleave(0), 6);
        x.clear(0);
        due("cleared", x.interleave(0), 0);
        for (int tree : WRONG_TREES) {
            due("tree " + tree, x.interleave(tree), -1);
        }
    }

    private static void promise13Sweep() {
        part = "promise 13";
        TurningTrees x = with(STILL, 1);
        due("an empty row", x.sweep(0), 0);
        x.ask(0, 10);
        due("10", x.sweep(0), 1);
        x.ask(0, 20);
        due("20 and 10", x.sweep(0), 3);
        x.ask(0, 15);
        due("15, 10 and 20", x.sweep(0), 6);
        x.ask(0, 20);
        due("20 and 15, and not 10, as late as 15", x.sweep(0), 7);
        x.ask(0, 0);
        // moments are 10: 3, 15: 3, 20: 4
        due("0, 10 and 20", x.sweep(0), 10);
        x.ask(0, 63);
        // moments are 0: 5, 10: 5, 15: 3, 20: 5
        due("63 and 20", x.sweep(0), 12);
        x.clear(0);
        due("cleared", x.sweep(0), 0);
        for (int tree : WRONG_TREES) {
            due("tree " + tree, x.sweep(tree), -1);
        }
    }

    private static void promise14Pages() {
        part = "promise 14";
        TurningTrees x = with(STILL, 10, 5, 20, 3, 7, 15, 30, 1, 40);
        due("of one", x.pages(0, 1, 1), 4);
        due("the root", x.pages(0, 1, 10), 1);
        due("of two: 10 and 5", x.pages(0, 2, 5), 1);
        due("20 begins another", x.pages(0, 2, 20), 2);
        due("15 with 20", x.pages(0, 2, 15), 2);
        due("30 begins another", x.pages(0, 2, 30), 3);
        due("40 with 30", x.pages(0, 2, 40), 3);
        due("of four: 10, 5, 20, 3", x.pages(0, 4, 3), 1);
        due("7 is the fifth", x.pages(0, 4, 7), 2);
        due("1 begins another", x.pages(0, 4, 1), 2);
        due("of sixteen", x.pages(0, 16, 40), 1);
        for (int b : new int[] {-1, 0, 17, Integer.MIN_VALUE, Integer.MAX_VALUE}) {
            due("b " + b, x.pages(0, b, 10), -1);
        }
        for (int key : WRONG_KEYS) {
            due("key " + key, x.pages(0, 2, key), -1);
        }
        due("a key that is not there", x.pages(0, 2, 11), -1);
        for (int tree : WRONG_TREES) {
            due("tree " + tree, x.pages(tree, 2, 10), -1);
        }
        x = with(STILL);
        for (int key = 0; key < 64; key++) {
            x.add(0, key);
        }
        due("a chain, of one", x.pages(0, 1, 63), 64);
        due("a chain, of sixteen", x.pages(0, 16, 63), 4);
    }

    private static void promise15Keep() {
        part = "promise 15";
        TurningTrees x = with(STILL, 5);
        for (int tree : WRONG_TREES) {
            due("keep of tree " + tree, x.keep(tree), -1);
        }
        for (int number = 0; number < 20; number++) {
            due("keep", x.keep(0), number);
        }
        due("20 are kept", x.keep(0), -1);
        due("the last one", x.kept(19, 5), 1);
        due("none more", x.kept(20, 5), -1);
        due("none such", x.keep(1), -1);
    }

    private static void promise16Kept() {
        part = "promise 16";
        TurningTrees x = with(SPLAY);
        due("an empty one", x.keep(0), 0);
        x.add(0, 0);
        x.add(0, 63);
        due("one of two", x.keep(0), 1);
        x.ask(0, 0);
        due("turned", x.keep(0), 2);
        x.remove(0, 63);
        due("emptier", x.keep(0), 3);
        due("was not there", x.kept(0, 0), 0);
        due("0 then", x.kept(1, 0), 2);
        due("63 then", x.kept(1, 63), 1);
        due("0 when turned", x.kept(2, 0), 1);
        due("63 when turned", x.kept(2, 63), 2);
        due("0 at last", x.kept(3, 0), 1);
        due("63 is gone", x.kept(3, 63), 0);
        due("never there", x.kept(3, 30), 0);
        for (int k : new int[] {-1, 4, 19, 20, Integer.MIN_VALUE, Integer.MAX_VALUE}) {
            due("k " + k, x.kept(k, 0), -1);
        }
        for (int key : WRONG_KEYS) {
            due("key " + key, x.kept(1, key), -1);
        }
    }

    private static TurningTrees with(int kind, int... keys) {
        TurningTrees x = new TurningTrees();
        x.tree(kind);
        for (int key : keys) {
            x.add(0, key);
        }
        return x;
    }

    private static void shape(TurningTrees x, int tree, String want) {
        String got = written(x, tree, x.count(tree, 2));
        if (!got.equals(want)) {
            wrong++;
            System.out.println(part + ": the shape is " + got + ", due is " + want);
        }
    }

    private static String written(TurningTrees x, int tree, int key) {
        if (key == TurningTrees.NONE) {
            return "-";
        }
        int left = x.look(tree, key, 2);
        int right = x.look(tree, key, 3);
        if (left == TurningTrees.NONE && right == TurningTrees.NONE) {
            return "" + key;
        }
        return key + "(" + written(x, tree, left) + "," + written(x, tree, right) + ")";
    }

    private static void due(String what, int got, int want) {
        if (got != want) {
            wrong++;
            System.out.println(part + ": " + what + " answered " + got + ", due is " + want);
        }
    }

    private static void noSuch(String what, Call call) {
        try {
            int got = call.answer();
            wrong++;
            System.out.println(part + ": " + what + " answered " + got + ", due is NoSuchElementException");
        } catch (NoSuchElementException e) {
            return;
        }
    }
}
