/** Family trees of a few species: least changes, likely states, and moving branches. */
public final class BranchTrees {
    private static final int MOST_LEAVES = 7;
    private static final int FIRST_INNER = 8;
    /** Node numbers run from 0 to 13; there is never a node 7. */
    private static final int NODES = 14;
    /** With seven leaves no node has more than six others above it. */
    private static final int DEEPEST = 6;
    private static final int SITES = 4;
    private static final int STATES = 4;
    private static final int STATE_PAIRS = 16;
    private static final int NODE_STATES = 56;
    private static final int LEAF_CODES = 256;
    private static final int MOST_COST = 9;
    private static final int MOST_RATE = 9;
    private static final int NONE = -1;
    /** Far above the cost of any assignment, and far below where sums of it would wrap around. */
    private static final int IMPOSSIBLE = 1000000;

    /** The tree is held by parents alone: nothing that is asked depends on the order of two children. */
    private final int[] parentOf = new int[NODES];
    private final int[] codeOf = new int[MOST_LEAVES];
    private final int[] costOf = new int[STATE_PAIRS];
    private final int[] rateOf = new int[STATE_PAIRS];
    private int leafCount;

    // What follows is filled anew by every call that uses it.
    private final int[] upwards = new int[NODES];
    private final int[] leastAt = new int[NODE_STATES];
    private final int[] waysAt = new int[NODE_STATES];
    private final long[] weightAt = new long[NODE_STATES];
    private final int[] setBefore = new int[NODES];

    public BranchTrees(int states) {
        parentOf[0] = NONE;
        codeOf[0] = isLeafCode(states) ? states : 0;
        leafCount = 1;
        for (int from = 0; from < STATES; from++) {
            for (int to = 0; to < STATES; to++) {
                costOf[from * STATES + to] = from == to ? 0 : 1;
                rateOf[from * STATES + to] = 1;
            }
        }
    }

    public int attach(int x, int states) {
        if (!isNode(x)) {
            return -1;
        }
        if (!isLeafCode(states)) {
            return -2;
        }
        if (leafCount == MOST_LEAVES) {
            return -3;
        }
        int leaf = leafCount;
        addLeafBeside(x, states);
        return leaf;
    }

    public int mutate(int x, int states) {
        if (!isLeaf(x)) {
            return -1;
        }
        if (!isLeafCode(states)) {
            return -2;
        }
        int before = codeOf[x];
        codeOf[x] = states;
        return before;
    }

    public int swap(int x, int y) {
        int refusal = refusalOfSwap(x, y);
        if (refusal == 0) {
            exchangePlaces(x, y);
        }
        return refusal;
    }

    public int move(int x, int y) {
        if (!isNode(x) || !isNode(y)) {
            return -1;
        }
        if (parentOf[x] == NONE) {
            return -2;
        }
        if (isAtOrAbove(x, y) || y == parentOf[x]) {
            return -3;
        }
        int carrier = parentOf[x];
        int sibling = siblingOf(x);
        parentOf[sibling] = parentOf[carrier];
        // Only now, since y may be the sibling, whose place has just changed.
        parentOf[carrier] = parentOf[y];
        parentOf[y] = carrier;
        return 0;
    }

    public int cost(int from, int to, int cost) {
        if (!isState(from) || !isState(to)) {
            return -1;
        }
        if (cost < 0 || cost > MOST_COST) {
            return -2;
        }
        int before = costOf[from * STATES + to];
        costOf[from * STATES + to] = cost;
        return before;
    }

    public int rate(int from, int to, int rate) {
        if (!isState(from) || !isState(to)) {
            return -1;
        }
        if (rate < 0 || rate > MOST_RATE) {
            return -2;
        }
        int before = rateOf[from * STATES + to];
        rateOf[from * STATES + to] = rate;
        return before;
    }

    public int leaves() {
        return leafCount;
    }

    public int root() {
        int node = 0;
        for (int step = 0; step < DEEPEST && parentOf[node] != NONE; step++) {
            node = parentOf[node];
        }
        return node;
    }

    public int parent(int x) {
        if (!isNode(x)) {
            return -1;
        }
        return parentOf[x] == NONE ? -2 : parentOf[x];
    }

    public int leavesBelow(int x) {
        return isNode(x) ? leafSetOf(x) : -1;
    }

    public int meet(int x, int y) {
        if (!isNode(x) || !isNode(y)) {
            return -1;
        }
        int node = x;
        for (int step = 0; step < DEEPEST && !isAtOrAbove(node, y); step++) {
            node = parentOf[node];
        }
        return node;
    }

    public int least(int site) {
        return isSite(site) ? leastCost(site, NONE, 0) : -1;
    }

    public int total() {
        int sum = 0;
        for (int site = 0; site < SITES; site++) {
            sum += leastCost(site, NONE, 0);
        }
        return sum;
    }

    public int ways(int site) {
        if (!isSite(site)) {
            return -1;
        }
        int best = leastCost(site, NONE, 0);
        int top = root() * STATES;
        int count = 0;
        for (int state = 0; state < STATES; state++) {
            if (leastAt[top + state] == best) {
                count += waysAt[top + state];
            }
        }
        return count;
    }

    public int states(int x, int site) {
        if (!isNode(x)) {
            return -1;
        }
        if (!isSite(site)) {
            return -2;
        }
        int best = leastCost(site, NONE, 0);
        int set = 0;
        for (int state = 0; state < STATES; state++) {
            if (leastCost(site, x, state) == best) {
                set += 1 << state;
            }
        }
        return set;
    }

    public long weight(int site) {
        if (!isSite(site)) {
            return -1;
        }
        startWeights(site);
        int listed = listUpwards();
        for (int i = 0; i < listed; i++) {
            carryWeightsUp(upwards[i]);
        }
        int top = root() * STATES;
        long sum = 0;
        for (int state = 0; state < STATES; state++) {
            sum += weightAt[top + state];
        }
        return sum;
    }

    public int bestPlace(int states) {
        if (!isLeafCode(states)) {
            return -1;
        }
        if (leafCount == MOST_LEAVES) {
            return -2;
        }
        int bestNode = NONE;
        int bestTotal = IMPOSSIBLE;
        for (int node = 0; node < NODES; node++) {
            if (isNode(node)) {
                addLeafBeside(node, states);
                int sum = total();
                removeNewestLeafBeside(node);
                if (sum < bestTotal) {
                    bestTotal = sum;
                    bestNode = node;
                }
            }
        }
        return bestNode;
    }

    public int keptBy(int x, int y) {
        int refusal = refusalOfSwap(x, y);
        if (refusal != 0) {
            return refusal;
        }
        for (int node = FIRST_INNER; node < NODES; node++) {
            setBefore[node] = isNode(node) ? leafSetOf(node) : 0;
        }
        exchangePlaces(x, y);
        int kept = 0;
        for (int node = FIRST_INNER; node < NODES; node++) {
            // Neither x nor y is the root, so the set of all leaves stays the root's.
            if (isNode(node) && parentOf[node] != NONE) {
                int set = leafSetOf(node);
                kept += wasSetBefore(set) ? 1 : 0;
            }
        }
        exchangePlaces(x, y);
        return kept;
    }

    private boolean isLeaf(int x) {
        return x >= 0 && x < leafCount;
    }

    private boolean isNode(int x) {
        // There is always one inner node less than there are leaves.
        return isLeaf(x) || (x >= FIRST_INNER && x < FIRST_INNER + leafCount - 1);
    }

    private boolean isLeafCode(int states) {
        return states >= 0 && states < LEAF_CODES;
    }

    private boolean isSite(int site) {
        return site >= 0 && site < SITES;
    }

    private boolean isState(int state) {
        return state >= 0 && state < STATES;
    }

    /** Needs a leaf number to be free. */
    private void addLeafBeside(int x, int states) {
        int leaf = leafCount;
        int inner = FIRST_INNER + leafCount - 1;
        codeOf[leaf] = states;
        parentOf[inner] = parentOf[x];
        parentOf[x] = inner;
        parentOf[leaf] = inner;
        leafCount++;
    }

    /** Undoes addLeafBeside(x, ..), if nothing was changed since. */
    private void removeNewestLeafBeside(int x) {
        parentOf[x] = parentOf[parentOf[x]];
        leafCount--;
    }

    private int refusalOfSwap(int x, int y) {
        if (!isNode(x) || !isNode(y)) {
            return -1;
        }
        return isAtOrAbove(x, y) || isAtOrAbove(y, x) ? -2 : 0;
    }

    private void exchangePlaces(int x, int y) {
        int place = parentOf[x];
        parentOf[x] = parentOf[y];
        parentOf[y] = place;
    }

    private boolean isAtOrAbove(int high, int low) {
        int node = low;
        for (int step = 0; step <= DEEPEST && node != NONE; step++) {
            if (node == high) {
                return true;
            }
            node = parentOf[node];
        }
        return false;
    }

    /** Needs x not to be the root. */
    private int siblingOf(int x) {
        int sibling = x;
        for (int node = 0; node < NODES; node++) {
            if (isNode(node) && node != x && parentOf[node] == parentOf[x]) {
                sibling = node;
            }
        }
        return sibling;
    }

    private int depthOf(int x) {
        int depth = 0;
        int above = parentOf[x];
        for (int step = 0; step < DEEPEST && above != NONE; step++) {
            depth++;
            above = parentOf[above];
        }
        return depth;
    }

    private int leafSetOf(int x) {
        int set = 0;
        for (int leaf = 0; leaf < MOST_LEAVES; leaf++) {
            if (isLeaf(leaf) && isAtOrAbove(x, leaf)) {
                set += 1 << leaf;
            }
        }
        return set;
    }

    private boolean wasSetBefore(int set) {
        for (int node = FIRST_INNER; node < NODES; node++) {
            if (setBefore[node] == set) {
                return true;
            }
        }
        return false;
    }

    /** Lists all nodes but the root, children before their parents, and answers how many there are. */
    private int listUpwards() {
        int listed = 0;
        for (int depth = DEEPEST; depth > 0; depth--) {
            for (int node = 0; node < NODES; node++) {
                if (isNode(node) && depthOf(node) == depth) {
                    upwards[listed] = node;
                    listed++;
                }
            }
        }
        return listed;
    }

    private boolean mayHave(int node, int state, int site) {
        return !isLeaf(node) || stateOf(node, site) == state;
    }

    private int stateOf(int leaf, int site) {
        // Site 0 is the first digit in base 4, and so the highest of the four.
        return (codeOf[leaf] >> (2 * (SITES - 1 - site))) & (STATES - 1);
    }

    /**
     * The least cost of the assignments in which the node pinned has the state pinnedState (of all, if pinned is
     * NONE), and IMPOSSIBLE or more if there are none. Leaves the least costs and ways of every node behind.
     */
    private int leastCost(int site, int pinned, int pinnedState) {
        startCosts(site, pinned, pinnedState);
        int listed = listUpwards();
        for (int i = 0; i < listed; i++) {
            carryCostsUp(upwards[i]);
        }
        int top = root() * STATES;
        int best = leastAt[top];
        for (int state = 1; state < STATES; state++) {
            if (leastAt[top + state] < best) {
                best = leastAt[top + state];
            }
        }
        return best;
    }

    private void startCosts(int site, int pinned, int pinnedState) {
        for (int node = 0; node < NODES; node++) {
            for (int state = 0; state < STATES; state++) {
                boolean allowed = node != pinned || state == pinnedState;
                leastAt[node * STATES + state] = allowed && mayHave(node, state, site) ? 0 : IMPOSSIBLE;
                waysAt[node * STATES + state] = 1;
            }
        }
    }

    private void carryCostsUp(int node) {
        int above = parentOf[node] * STATES;
        for (int from = 0; from < STATES; from++) {
            int best = 2 * IMPOSSIBLE;
            int ways = 0;
            for (int to = 0; to < STATES; to++) {
                int cost = costOf[from * STATES + to] + leastAt[node * STATES + to];
                if (cost < best) {
                    best = cost;
                    ways = 0;
                }
                if (cost == best) {
                    ways += waysAt[node * STATES + to];
                }
            }
            leastAt[above + from] += best;
            waysAt[above + from] *= ways;
        }
    }

    private void startWeights(int site) {
        for (int node = 0; node < NODES; node++) {
            for (int state = 0; state < STATES; state++) {
                weightAt[node * STATES + state] = mayHave(node, state, site) ? 1 : 0;
            }
        }
    }

    private void carryWeightsUp(int node) {
        int above = parentOf[node] * STATES;
        for (int from = 0; from < STATES; from++) {
            long sum = 0;
            for (int to = 0; to < STATES; to++) {
                sum += rateOf[from * STATES + to] * weightAt[node * STATES + to];
            }
            weightAt[above + from] *= sum;
        }
    }
}
