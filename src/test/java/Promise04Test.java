/** Promise 4: swap. */
final class Promise04Test {
    private static final Check check = new Check("Promise04Test");

    private Promise04Test() {
    }

    private static void swapped(int x, int y, String parents) {
        BranchTrees t = Trees.five();
        check.due("swap(" + x + ", " + y + ")", t.swap(x, y), 0);
        check.same("parents after swap(" + x + ", " + y + ")", Trees.parents(t), parents);
        check.due("swap(" + y + ", " + x + ") back", t.swap(y, x), 0);
        check.same("all after swap back", Trees.all(t), Trees.all(Trees.five()));
    }

    private static void refused(int leaves, int x, int y, int due) {
        check.keeps(leaves, "swap(" + x + ", " + y + ")", t -> t.swap(x, y), due);
        check.keeps(leaves, "swap(" + y + ", " + x + ")", t -> t.swap(y, x), due);
    }

    private static void exchangesPlaces() {
        swapped(0, 3, "10 9 11 8 11 -1 -1 -1 10 8 -2 9 -1 -1");
        swapped(0, 11, "9 9 11 10 11 -1 -1 -1 10 8 -2 8 -1 -1");
        swapped(11, 3, "8 9 11 9 11 -1 -1 -1 10 8 -2 10 -1 -1");
        swapped(3, 9, "8 9 11 8 11 -1 -1 -1 10 10 -2 9 -1 -1");
    }

    /** Two children of one parent only change sides: it answers 0, and all is as before. */
    private static void siblingsStaySiblings() {
        int[][] siblings = {{10, 8, 3}, {8, 13, 12}, {13, 0, 6}, {12, 9, 5}, {9, 1, 11}, {11, 2, 4}};
        for (int[] family : siblings) {
            refused(7, family[1], family[2], 0);
        }
    }

    /** In the tree of seven leaves: a node and its parent's sibling, which is not above it, change places. */
    private static void aNodeAndItsParentsSibling() {
        check.answers(7, "swap(0, 12)", t -> t.swap(0, 12), 0);
        check.answers(7, "swap(13, 3)", t -> t.swap(13, 3), 0);
        check.answers(7, "swap(4, 1)", t -> t.swap(4, 1), 0);
        check.answers(7, "swap(5, 13)", t -> t.swap(5, 13), 0);
    }

    /** "-1 if x or y is not good": the one, the other, and both. */
    private static void noNode() {
        for (int leaves = 1; leaves <= 7; leaves++) {
            int lastNode = leaves == 1 ? 0 : 8 + leaves - 2;
            for (int x : Trees.badNodes(leaves)) {
                refused(leaves, x, 0, -1);
                refused(leaves, x, leaves - 1, -1);
                refused(leaves, x, lastNode, -1);
                refused(leaves, x, -1, -1);
            }
        }
    }

    /** "-2 if they are the same", in every tree, that of one leaf too. */
    private static void theSame() {
        for (int leaves = 1; leaves <= 7; leaves++) {
            for (int x : Trees.goodNodes(leaves)) {
                refused(leaves, x, x, -2);
            }
        }
    }

    /** "or one of them is above the other (its parent, its parent's parent, and so on)", up to the root. */
    private static void theOneAboveTheOther() {
        int[][] waysUp = {{0, 13, 8, 10}, {6, 13, 8, 10}, {2, 11, 9, 12, 8, 10}, {4, 11, 9, 12, 8, 10},
            {1, 9, 12, 8, 10}, {5, 12, 8, 10}, {3, 10}};
        for (int[] way : waysUp) {
            for (int low = 0; low < way.length; low++) {
                for (int high = low + 1; high < way.length; high++) {
                    refused(7, way[low], way[high], -2);
                }
            }
        }
        refused(2, 0, 8, -2);
        refused(2, 1, 8, -2);
    }

    /** Six nodes, one above the other, above a leaf: as many as there can be. */
    private static void sixAbove() {
        for (int high = 8; high <= 13; high++) {
            BranchTrees t = Trees.seven();
            String before = Trees.look(t);
            check.due("swap(0, " + high + ")", t.swap(0, high), -2);
            check.due("swap(" + high + ", 6)", t.swap(high, 6), -2);
            check.same("all after refusals", Trees.look(t), before);
        }
    }

    /** "the tests are made in the order named": the same, but no node. */
    private static void inTheOrderNamed() {
        for (int leaves = 1; leaves <= 7; leaves++) {
            for (int x : Trees.badNodes(leaves)) {
                refused(leaves, x, x, -1);
            }
        }
        // The root is above all nodes, but these are none.
        refused(5, 10, 5, -1);
        refused(5, 10, 12, -1);
        refused(7, 10, 14, -1);
    }

    public static void main(String[] args) {
        exchangesPlaces();
        siblingsStaySiblings();
        aNodeAndItsParentsSibling();
        noNode();
        theSame();
        theOneAboveTheOther();
        sixAbove();
        inTheOrderNamed();
        check.end();
    }
}
