import java.util.function.ToLongFunction;

/** "An object is used for at most 512 calls after it has been made": the 512th is answered as the first. */
final class LifeTest {
    private static final int CALLS = 512;
    private static final Check check = new Check("LifeTest");

    private LifeTest() {
    }

    private static void same(String call, BranchTrees t, ToLongFunction<BranchTrees> made, long due, int before) {
        for (int number = before + 1; number <= CALLS; number++) {
            check.due(call + " as call " + number, made.applyAsLong(t), due);
        }
    }

    /** The calls that attach, and then one call over and over up to the 512th. */
    private static void everyQuestionAndRefusal() {
        same("leaves()", Trees.five(), t -> t.leaves(), 5, 4);
        same("root()", Trees.five(), t -> t.root(), 10, 4);
        same("parent(2)", Trees.five(), t -> t.parent(2), 11, 4);
        same("leavesBelow(8)", Trees.five(), t -> t.leavesBelow(8), 23, 4);
        same("meet(0, 4)", Trees.five(), t -> t.meet(0, 4), 8, 4);
        same("least(0)", Trees.five(), t -> t.least(0), 3, 4);
        same("total()", Trees.five(), t -> t.total(), 10, 4);
        same("ways(2)", Trees.five(), t -> t.ways(2), 5, 4);
        same("states(10, 0)", Trees.five(), t -> t.states(10, 0), 5, 4);
        same("weight(3)", Trees.five(), t -> t.weight(3), 256, 4);
        same("bestPlace(27)", Trees.five(), t -> t.bestPlace(27), 0, 4);
        same("keptBy(0, 11)", Trees.five(), t -> t.keptBy(0, 11), 2, 4);
        same("attach(0, 0)", Trees.seven(), t -> t.attach(0, 0), -3, 6);
        same("attach(0, 256)", Trees.five(), t -> t.attach(0, 256), -2, 4);
        same("swap(0, 0)", Trees.five(), t -> t.swap(0, 0), -2, 4);
        same("move(10, 0)", Trees.five(), t -> t.move(10, 0), -2, 4);
        same("keptBy(7, 0)", Trees.five(), t -> t.keptBy(7, 0), -1, 4);
    }

    private static void everyChange() {
        BranchTrees mutated = new BranchTrees(0);
        BranchTrees dear = new BranchTrees(0);
        BranchTrees fast = new BranchTrees(0);
        BranchTrees grown = new BranchTrees(0);
        for (int number = 1; number <= CALLS; number++) {
            String as = " as call " + number;
            check.due("mutate" + as, mutated.mutate(0, number & 255), number - 1 & 255);
            check.due("cost" + as, dear.cost(0, 1, number % 10), number == 1 ? 1 : (number - 1) % 10);
            check.due("rate" + as, fast.rate(3, 3, number % 10), number == 1 ? 1 : (number - 1) % 10);
            // The last six calls are the first that attach.
            int leaf = number - (CALLS - 6);
            check.due("attach" + as, grown.attach(leaf > 0 ? 0 : 1, 0), leaf > 0 ? leaf : -1);
        }
        same("swap(0, 11)", Trees.five(), t -> t.swap(0, 11), 0, 4);
        same("move(2, 0)", Trees.five(), t -> t.move(2, 0), 0, 4);
    }

    /** Four calls that attach, 494 swaps to and fro, and the last 14 calls see the tree as it was at first. */
    private static void manyChangesAddUp() {
        BranchTrees t = Trees.five();
        for (int number = 5; number <= 498; number += 2) {
            check.due("swap(3, 11) as call " + number, t.swap(3, 11), 0);
            check.due("swap(11, 3) as call " + (number + 1), t.swap(11, 3), 0);
        }
        check.same("parents, up to call 512", Trees.parents(t), "8 9 11 10 11 -1 -1 -1 10 8 -2 9 -1 -1");
    }

    private static void laterCallsEnd(BranchTrees t, int number) {
        int x = number % 17 - 1;
        int y = number / 17 % 17 - 1;
        int small = number % 6 - 1;
        t.attach(x, number);
        t.mutate(x, number & 511);
        t.swap(x, y);
        t.move(x, y);
        t.cost(small, y, number % 12 - 1);
        t.rate(small, y, number % 12 - 1);
        t.leaves();
        t.root();
        t.parent(x);
        t.leavesBelow(x);
        t.meet(x, y);
        t.least(small);
        t.total();
        t.ways(small);
        t.states(x, small);
        t.weight(small);
        t.bestPlace(number & 511);
        t.keptBy(x, y);
    }

    /** "what later calls answer is free", but LANGUAGE.md lets none of them throw or fail to end. */
    private static void laterCallsEndToo() {
        BranchTrees t = new BranchTrees(0);
        String thrown = "nothing";
        for (int number = 0; number < 5000 && thrown.equals("nothing"); number++) {
            try {
                laterCallsEnd(t, number);
            } catch (RuntimeException e) {
                thrown = e + " in round " + number;
            }
        }
        check.same("what later calls threw", thrown, "nothing");
    }

    public static void main(String[] args) {
        everyQuestionAndRefusal();
        everyChange();
        manyChangesAddUp();
        laterCallsEndToo();
        check.end();
    }
}
