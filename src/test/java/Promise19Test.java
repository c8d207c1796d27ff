/** Promise 19: keptBy. */
final class Promise19Test {
    private static final Check check = new Check("Promise19Test");

    private Promise19Test() {
    }

    private static void kept(BranchTrees t, int x, int y, int due) {
        check.due("keptBy(" + x + ", " + y + ")", t.keptBy(x, y), due);
        check.due("keptBy(" + y + ", " + x + ")", t.keptBy(y, x), due);
    }

    private static void keeps(int leaves, int x, int y, int due) {
        check.keeps(leaves, "keptBy(" + x + ", " + y + ")", t -> t.keptBy(x, y), due);
        check.keeps(leaves, "keptBy(" + y + ", " + x + ")", t -> t.keptBy(y, x), due);
    }

    /** The sets of five are 0124, 124 and 24. */
    private static void ofFive() {
        BranchTrees t = Trees.five();
        kept(t, 2, 4, 3);
        kept(t, 0, 9, 3);
        kept(t, 8, 3, 3);
        kept(t, 0, 11, 2);
        kept(t, 0, 3, 2);
        kept(t, 1, 2, 2);
        kept(t, 3, 11, 1);
        kept(t, 1, 3, 1);
        kept(t, 0, 4, 1);
        kept(t, 3, 2, 0);
        kept(t, 9, 3, 2);
    }

    /** "sets of two or more leaves": those of one leaf, which every swap keeps, don't count. */
    private static void setsOfTwoOrMore() {
        keeps(2, 0, 1, 0);
        keeps(3, 0, 1, 0);
        keeps(3, 0, 2, 0);
        // The set 12, of just two leaves, does.
        keeps(3, 1, 2, 1);
        keeps(3, 0, 9, 1);
    }

    /** "but not of all": the root's set, which every swap keeps, doesn't count; one leaf less than all does. */
    private static void notThatOfAll() {
        keeps(2, 0, 1, 0);
        keeps(4, 3, 8, 2);
        keeps(4, 3, 0, 1);
        keeps(4, 3, 9, 1);
        keeps(4, 3, 1, 0);
        keeps(7, 8, 3, 5);
    }

    /** In a tree of seven leaves: from all five sets down to none. */
    private static void ofSeven() {
        keeps(7, 2, 4, 5);
        keeps(7, 13, 12, 5);
        keeps(7, 13, 3, 4);
        keeps(7, 0, 12, 4);
        keeps(7, 0, 3, 3);
        keeps(7, 0, 9, 3);
        keeps(7, 0, 1, 2);
        keeps(7, 0, 2, 1);
        keeps(7, 2, 3, 1);
        BranchTrees deep = Trees.seven();
        kept(deep, 0, 6, 5);
        kept(deep, 12, 4, 5);
        kept(deep, 13, 1, 1);
        kept(deep, 0, 1, 0);
    }

    /** "with the tree changed by swap(x, y)": beside the sets counted before and after that swap. */
    private static void besideTheSwap() {
        for (int leaves = 1; leaves <= 7; leaves++) {
            int all = (1 << leaves) - 1;
            for (int x : Trees.goodNodes(leaves)) {
                for (int y : Trees.goodNodes(leaves)) {
                    BranchTrees t = Trees.grown(leaves);
                    int due = t.swap(x, y);
                    if (due == 0) {
                        due = setsInBoth(Trees.grown(leaves), t, leaves, all);
                    }
                    check.answers(leaves, "keptBy(" + x + ", " + y + ")", u -> u.keptBy(x, y), due);
                }
            }
        }
    }

    private static int setsInBoth(BranchTrees before, BranchTrees after, int leaves, int all) {
        int both = 0;
        for (int node : Trees.goodNodes(leaves)) {
            int set = before.leavesBelow(node);
            boolean found = false;
            for (int other : Trees.goodNodes(leaves)) {
                found |= after.leavesBelow(other) == set;
            }
            both += found && Integer.bitCount(set) >= 2 && set != all ? 1 : 0;
        }
        return both;
    }

    /** "-1 .. as swap would answer": the one, the other, and both. */
    private static void noNode() {
        for (int leaves = 1; leaves <= 7; leaves++) {
            int lastNode = leaves == 1 ? 0 : 8 + leaves - 2;
            for (int x : Trees.badNodes(leaves)) {
                keeps(leaves, x, 0, -1);
                keeps(leaves, x, lastNode, -1);
                keeps(leaves, x, 7, -1);
            }
        }
    }

    /** "or -2 as swap would answer": the same, in the tree of one leaf too, or one above the other. */
    private static void theSameOrAbove() {
        for (int leaves = 1; leaves <= 7; leaves++) {
            for (int x : Trees.goodNodes(leaves)) {
                keeps(leaves, x, x, -2);
            }
        }
        int[][] waysUp = {{0, 13, 8, 10}, {6, 13, 8, 10}, {2, 11, 9, 12, 8, 10}, {4, 11, 9, 12, 8, 10},
            {1, 9, 12, 8, 10}, {5, 12, 8, 10}, {3, 10}};
        for (int[] way : waysUp) {
            for (int low = 0; low < way.length; low++) {
                for (int high = low + 1; high < way.length; high++) {
                    keeps(7, way[low], way[high], -2);
                }
            }
        }
    }

    /** "the tests are made in the order named", those of swap. */
    private static void inTheOrderNamed() {
        for (int leaves = 1; leaves <= 7; leaves++) {
            for (int x : Trees.badNodes(leaves)) {
                keeps(leaves, x, x, -1);
            }
        }
    }

    public static void main(String[] args) {
        ofFive();
        setsOfTwoOrMore();
        notThatOfAll();
        ofSeven();
        besideTheSwap();
        noNode();
        theSameOrAbove();
        inTheOrderNamed();
        check.end();
    }
}
