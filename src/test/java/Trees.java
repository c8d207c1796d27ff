/** Trees that several tests start from, and the look of a tree as its questions show it. */
final class Trees {
    /** Numbers that are never those of a node. */
    static final int[] NO_NODES = {-1, 7, 14, 15, 100, Integer.MIN_VALUE, Integer.MAX_VALUE};
    /** Numbers that are no sites and no states. */
    static final int[] NO_DIGITS = {-1, 4, 5, Integer.MIN_VALUE, Integer.MAX_VALUE};
    /** Numbers that are not those of the states of a leaf. */
    static final int[] NO_CODES = {-1, 256, 300, Integer.MIN_VALUE, Integer.MAX_VALUE};
    /** Numbers that are no costs and no rates. */
    static final int[] NO_COSTS = {-1, 10, 11, Integer.MIN_VALUE, Integer.MAX_VALUE};

    private Trees() {
    }

    /** 10( 8( 0, 9( 1, 11( 2, 4 ) ) ), 3 ), with the states 0123, 1032, 3210, 2103, 0132. */
    static BranchTrees five() {
        BranchTrees t = new BranchTrees(27);
        t.attach(0, 78);
        t.attach(1, 228);
        t.attach(8, 147);
        t.attach(2, 30);
        return t;
    }

    /** 8( 9( 10( 11( 12( 13( 0, 6 ), 5 ), 4 ), 3 ), 2 ), 1 ): as many leaves and as deep as a tree can be. */
    static BranchTrees seven() {
        BranchTrees t = new BranchTrees(0);
        for (int leaf = 1; leaf < 7; leaf++) {
            t.attach(0, leaf * 37);
        }
        return t;
    }

    /** The states at the four sites as they are written: code("0123") is 27. */
    static int code(String digits) {
        return Integer.parseInt(digits, 4);
    }

    static void setAllCosts(BranchTrees t, int cost) {
        for (int from = 0; from < 4; from++) {
            for (int to = 0; to < 4; to++) {
                t.cost(from, to, cost);
            }
        }
    }

    static void setAllRates(BranchTrees t, int rate) {
        for (int from = 0; from < 4; from++) {
            for (int to = 0; to < 4; to++) {
                t.rate(from, to, rate);
            }
        }
    }

    /** The parents of the nodes 0 .. 13, in 14 calls. */
    static String parents(BranchTrees t) {
        StringBuilder look = new StringBuilder();
        for (int node = 0; node < 14; node++) {
            look.append(node == 0 ? "" : " ").append(t.parent(node));
        }
        return look.toString();
    }

    /** All that can be seen of a tree without a change to it, but for bestPlace, meet and keptBy, in some 100 calls. */
    static String look(BranchTrees t) {
        StringBuilder look = new StringBuilder();
        look.append(t.leaves()).append(" leaves, root ").append(t.root()).append(", total ").append(t.total());
        look.append(", parents ").append(parents(t));
        for (int site = 0; site < 4; site++) {
            look.append(", site ").append(site).append(": ").append(t.least(site));
            look.append(' ').append(t.ways(site)).append(' ').append(t.weight(site));
            for (int node = 0; node < 14; node++) {
                look.append(' ').append(t.states(node, site));
            }
        }
        return look.toString();
    }
}
