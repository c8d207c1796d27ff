/** Promise 4: swap. */
final class Promise04Test {
    private static final Check check = new Check("Promise04Test");

    private Promise04Test() {
    }

    /** The nodes above each node of Trees.five(), each set as the sum of 2^node. */
    private static int above(int x) {
        return switch (x) {
            case 0, 9 -> 1 << 8 | 1 << 10;
            case 1, 11 -> 1 << 9 | 1 << 8 | 1 << 10;
            case 2, 4 -> 1 << 11 | 1 << 9 | 1 << 8 | 1 << 10;
            case 3, 8 -> 1 << 10;
            default -> 0;
        };
    }

    private static void swapped(int x, int y, String parents) {
        BranchTrees t = Trees.five();
        check.due("swap(" + x + ", " + y + ")", t.swap(x, y), 0);
        check.same("parents after swap(" + x + ", " + y + ")", Trees.parents(t), parents);
        check.due("swap(" + y + ", " + x + ") back", t.swap(y, x), 0);
        check.same("all after swap back", Trees.look(t), Trees.look(Trees.five()));
    }

    private static void exchangesPlaces() {
        swapped(0, 3, "10 9 11 8 11 -1 -1 -1 10 8 -2 9 -1 -1");
        swapped(0, 11, "9 9 11 10 11 -1 -1 -1 10 8 -2 8 -1 -1");
        swapped(11, 3, "8 9 11 9 11 -1 -1 -1 10 8 -2 10 -1 -1");
        swapped(3, 9, "8 9 11 8 11 -1 -1 -1 10 10 -2 9 -1 -1");
    }

    private static void siblingsStaySiblings() {
        String same = "8 9 11 10 11 -1 -1 -1 10 8 -2 9 -1 -1";
        swapped(2, 4, same);
        swapped(0, 9, same);
        swapped(11, 1, same);
        swapped(8, 3, same);
    }

    private static void allPairs() {
        int[] nodes = {0, 1, 2, 3, 4, 8, 9, 10, 11};
        for (int x : nodes) {
            for (int y : nodes) {
                boolean refused = x == y || (above(x) >> y & 1) == 1 || (above(y) >> x & 1) == 1;
                BranchTrees t = Trees.five();
                check.due("swap(" + x + ", " + y + ")", t.swap(x, y), refused ? -2 : 0);
                if (refused) {
                    check.same("all after a refusal", Trees.look(t), Trees.look(Trees.five()));
                }
            }
        }
    }

    private static void notGood() {
        BranchTrees t = Trees.five();
        for (int x : Trees.NO_NODES) {
            check.due("swap(" + x + ", 0)", t.swap(x, 0), -1);
            check.due("swap(0, " + x + ")", t.swap(0, x), -1);
            check.due("swap(" + x + ", " + x + ")", t.swap(x, x), -1);
        }
        for (int x : new int[] {5, 6, 12, 13}) {
            check.due("swap(" + x + ", " + x + ")", t.swap(x, x), -1);
            check.due("swap(10, " + x + ")", t.swap(10, x), -1);
        }
        check.same("all after refusals", Trees.look(t), Trees.look(Trees.five()));
        check.due("swap(0, 0) of one leaf", new BranchTrees(0).swap(0, 0), -2);
    }

    public static void main(String[] args) {
        exchangesPlaces();
        siblingsStaySiblings();
        allPairs();
        notGood();
        check.end();
    }
}
