import java.util.stream.IntStream;

/** Trees that several tests start from, numbers at the edges, and the look of a tree as its questions show it. */
final class Trees {
    /** Far outside; the ones between are such that a multiple of them, a mask or a shift wraps back into the good. */
    private static final int[] FAR = {
        Integer.MIN_VALUE, Integer.MIN_VALUE + 1, -1 << 30, -65536, -256, -16, -2,
        32, 64, 1024, 65536, 1 << 30, Integer.MAX_VALUE - 1, Integer.MAX_VALUE,
    };
    /** Numbers that are never those of a node. */
    static final int[] NO_NODES = with(FAR, -1, 7, 14, 15, 16, 100);
    /** Numbers that are no sites and no states. */
    static final int[] NO_DIGITS = with(FAR, -1, 4, 5, 8, 16);
    /** Numbers that are not those of the states of a leaf. */
    static final int[] NO_CODES = {
        Integer.MIN_VALUE, Integer.MIN_VALUE + 255, -65536, -256, -255, -2, -1,
        256, 257, 300, 511, 512, 65536, 1 << 30, Integer.MAX_VALUE - 1, Integer.MAX_VALUE,
    };
    /** Numbers that are no costs and no rates. */
    static final int[] NO_COSTS = with(FAR, -9, -1, 10, 11, 16);
    /** Beside which node each leaf of grown(..) comes, and with which states. */
    private static final int[] BESIDE = {0, 0, 1, 8, 2, 9, 0};
    private static final int[] CODES = {27, 78, 228, 147, 30, 201, 114};

    private Trees() {
    }

    private static int[] with(int[] some, int... more) {
        return IntStream.concat(IntStream.of(some), IntStream.of(more)).toArray();
    }

    /** The good nodes of a tree of so many leaves: the first, the last and all between. */
    static int[] goodNodes(int leaves) {
        return IntStream.concat(IntStream.range(0, leaves), IntStream.range(8, 8 + leaves - 1)).toArray();
    }

    /** The nodes that a tree of so many leaves does not have yet, the first and the last among them, and NO_NODES. */
    static int[] badNodes(int leaves) {
        int[] notYet = IntStream.concat(IntStream.range(leaves, 7), IntStream.range(8 + leaves - 1, 14)).toArray();
        return with(NO_NODES, notYet);
    }

    static int codeOf(int leaf) {
        return CODES[leaf];
    }

    static int costOf(int from, int to) {
        return (4 * from + 3 * to + 1) % 10;
    }

    static int rateOf(int from, int to) {
        return (3 * from + 7 * to + 2) % 10;
    }

    /**
     * A tree of 1 to 7 leaves, the leaves, costs and rates unlike each other. Of 7 it is
     * 10( 8( 13( 0, 6 ), 12( 9( 1, 11( 2, 4 ) ), 5 ) ), 3 ); the smaller ones lack the last leaves and inner nodes.
     */
    static BranchTrees grown(int leaves) {
        BranchTrees t = new BranchTrees(CODES[0]);
        for (int leaf = 1; leaf < leaves; leaf++) {
            t.attach(BESIDE[leaf], CODES[leaf]);
        }
        for (int from = 0; from < 4; from++) {
            for (int to = 0; to < 4; to++) {
                t.cost(from, to, costOf(from, to));
                t.rate(from, to, rateOf(from, to));
            }
        }
        return t;
    }

    /** The same as grown(..), of the model. */
    static Model grownModel(int leaves) {
        Model m = new Model(CODES[0]);
        for (int leaf = 1; leaf < leaves; leaf++) {
            m.attach(BESIDE[leaf], CODES[leaf]);
        }
        for (int from = 0; from < 4; from++) {
            for (int to = 0; to < 4; to++) {
                m.cost(from, to, costOf(from, to));
                m.rate(from, to, rateOf(from, to));
            }
        }
        return m;
    }

    /** 10( 8( 0, 9( 1, 11( 2, 4 ) ) ), 3 ), with the states 0123, 1032, 3210, 2103, 0132. */
    static BranchTrees five() {
        BranchTrees t = new BranchTrees(27);
        t.attach(0, 78);
        t.attach(1, 228);
        t.attach(8, 147);
        t.attach(2, 30);
        return t;
    }

    /** 8( 9( 10( 11( 12( 13( 0, 6 ), 5 ), 4 ), 3 ), 2 ), 1 ): as many leaves and as deep as a tree can be. */
    static BranchTrees seven() {
        BranchTrees t = new BranchTrees(0);
        for (int leaf = 1; leaf < 7; leaf++) {
            t.attach(0, leaf * 37);
        }
        return t;
    }

    /** The states at the four sites as they are written: code("0123") is 27. */
    static int code(String digits) {
        return Integer.parseInt(digits, 4);
    }

    static void setAllCosts(BranchTrees t, int cost) {
        for (int from = 0; from < 4; from++) {
            for (int to = 0; to < 4; to++) {
                t.cost(from, to, cost);
            }
        }
    }

    static void setAllRates(BranchTrees t, int rate) {
        for (int from = 0; from < 4; from++) {
            for (int to = 0; to < 4; to++) {
                t.rate(from, to, rate);
            }
        }
    }

    /** The parents of the nodes 0 .. 13, in 14 calls. */
    static String parents(BranchTrees t) {
        StringBuilder look = new StringBuilder();
        for (int node = 0; node < 14; node++) {
            look.append(node == 0 ? "" : " ").append(t.parent(node));
        }
        return look.toString();
    }

    /** All that can be seen of a tree without a change to it, but for bestPlace, meet and keptBy, in some 100 calls. */
    static String look(BranchTrees t) {
        StringBuilder look = new StringBuilder();
        look.append(t.leaves()).append(" leaves, root ").append(t.root()).append(", total ").append(t.total());
        look.append(", parents ").append(parents(t)).append(", leaves below");
        for (int node = 0; node < 14; node++) {
            look.append(' ').append(t.leavesBelow(node));
        }
        for (int site = 0; site < 4; site++) {
            look.append(", site ").append(site).append(": ").append(t.least(site));
            look.append(' ').append(t.ways(site)).append(' ').append(t.weight(site));
            for (int node = 0; node < 14; node++) {
                look.append(' ').append(t.states(node, site));
            }
        }
        return look.toString();
    }

    /** All that can be asked of a tree, in some 370 calls, of which the last ones spoil it. */
    static String all(BranchTrees t) {
        StringBuilder all = new StringBuilder(look(t)).append(", best places");
        for (int code = 0; code < 256; code += 51) {
            all.append(' ').append(t.bestPlace(code));
        }
        all.append(", meetings and kept sets");
        for (int x = 0; x < 14; x++) {
            for (int y = 0; y <= x; y++) {
                all.append(' ').append(t.meet(x, y)).append('/').append(t.keptBy(x, y));
            }
        }
        return all.append(spoils(t)).toString();
    }

    /** What only a change answers: the costs, the rates, the leaves' states, and the number of the next leaf. */
    private static String spoils(BranchTrees t) {
        StringBuilder spoils = new StringBuilder(", costs and rates");
        for (int from = 0; from < 4; from++) {
            for (int to = 0; to < 4; to++) {
                spoils.append(' ').append(t.cost(from, to, 0)).append('/').append(t.rate(from, to, 0));
            }
        }
        spoils.append(", states of leaves");
        for (int leaf = 0; leaf < 7; leaf++) {
            spoils.append(' ').append(t.mutate(leaf, 0));
        }
        return spoils.append(", next leaf ").append(t.attach(0, 0)).append(", parents ").append(parents(t)).toString();
    }
}
