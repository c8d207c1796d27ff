/** Promise 14: total. */
final class Promise14Test {
    private static final Check check = new Check("Promise14Test");

    private Promise14Test() {
    }

    private static void ofTwo(String one, String other, int due) {
        BranchTrees t = new BranchTrees(Trees.code(one));
        t.attach(0, Trees.code(other));
        check.due("total() of " + one + " and " + other, t.total(), due);
    }

    /** "over all four sites": the first and the last count as those between. */
    private static void everySiteCounts() {
        ofTwo("0123", "0123", 0);
        ofTwo("0123", "1123", 1);
        ofTwo("0123", "0023", 1);
        ofTwo("0123", "0103", 1);
        ofTwo("0123", "0122", 1);
        ofTwo("0123", "3210", 4);
    }

    private static void ofFive() {
        BranchTrees five = Trees.five();
        check.due("total() of five", five.total(), 3 + 2 + 3 + 2);
    }

    /** "The sum of these costs": of the four that least answers, on a tree of each number of leaves. */
    private static void theSumOfTheFour() {
        for (int leaves = 1; leaves <= 7; leaves++) {
            BranchTrees t = Trees.grown(leaves);
            int sum = t.least(0) + t.least(1) + t.least(2) + t.least(3);
            check.keeps(leaves, "total()", u -> u.total(), sum);
        }
    }

    /** From 0, of one leaf or where all costs are 0, to the greatest there can be. */
    private static void theLeastAndTheGreatest() {
        check.due("total() of one leaf", new BranchTrees(99).total(), 0);
        for (int leaves = 1; leaves <= 7; leaves++) {
            BranchTrees t = Trees.grown(leaves);
            Trees.setAllCosts(t, 9);
            check.due("total(), all costs 9", t.total(), 4 * 9 * 2 * (leaves - 1));
            Trees.setAllCosts(t, 0);
            check.due("total(), all costs 0", t.total(), 0);
        }
    }

    public static void main(String[] args) {
        everySiteCounts();
        ofFive();
        theSumOfTheFour();
        theLeastAndTheGreatest();
        check.end();
    }
}
