import java.util.ArrayList;
import java.util.List;
import java.util.Set;
import java.util.TreeSet;

/**
 * The document's words over again, as slowly and as plainly as can be: nodes with children, and every assignment
 * written out. It shares no idea with the class but the document.
 */
final class Model {
    private static final class Node {
        final int number;
        int[] states;
        Node parent;
        Node left;
        Node right;

        Node(int number) {
            this.number = number;
        }
    }

    private final Node[] leaf = new Node[7];
    private final Node[] inner = new Node[6];
    private int leaves = 0;
    private int inners = 0;
    private Node root;
    private final int[][] cost = new int[4][4];
    private final int[][] rate = new int[4][4];

    Model(int states) {
        root = newLeaf(states < 0 || states > 255 ? 0 : states);
        for (int from = 0; from < 4; from++) {
            for (int to = 0; to < 4; to++) {
                cost[from][to] = from == to ? 0 : 1;
                rate[from][to] = 1;
            }
        }
    }

    private Model() {
    }

    private Model copy() {
        Model m = new Model();
        for (int from = 0; from < 4; from++) {
            m.cost[from] = cost[from].clone();
            m.rate[from] = rate[from].clone();
        }
        m.leaves = leaves;
        m.inners = inners;
        m.root = m.copyOf(root, null);
        return m;
    }

    private Node copyOf(Node node, Node parent) {
        Node n = new Node(node.number);
        n.parent = parent;
        if (node.left == null) {
            n.states = node.states.clone();
            leaf[n.number] = n;
        } else {
            n.left = copyOf(node.left, n);
            n.right = copyOf(node.right, n);
            inner[n.number - 8] = n;
        }
        return n;
    }

    private Node newLeaf(int states) {
        Node n = new Node(leaves);
        n.states = digits(states);
        leaf[leaves++] = n;
        return n;
    }

    private static int[] digits(int states) {
        return new int[] {states / 64, states / 16 % 4, states / 4 % 4, states % 4};
    }

    private Node node(int x) {
        if (x >= 0 && x < leaves) {
            return leaf[x];
        }
        return x >= 8 && x < 8 + inners ? inner[x - 8] : null;
    }

    private List<Node> nodes() {
        List<Node> all = new ArrayList<>();
        for (int x = 0; x < 14; x++) {
            if (node(x) != null) {
                all.add(node(x));
            }
        }
        return all;
    }

    /** Puts a node where another one is, which then has no place. */
    private void takePlace(Node newcomer, Node old) {
        Node p = old.parent;
        newcomer.parent = p;
        if (p == null) {
            root = newcomer;
        } else if (p.left == old) {
            p.left = newcomer;
        } else {
            p.right = newcomer;
        }
        old.parent = null;
    }

    private static boolean above(Node high, Node low) {
        return low.parent != null && (low.parent == high || above(high, low.parent));
    }

    int attach(int x, int states) {
        if (node(x) == null) {
            return -1;
        }
        if (states < 0 || states > 255) {
            return -2;
        }
        if (leaves == 7) {
            return -3;
        }
        Node n = new Node(8 + inners);
        takePlace(n, node(x));
        n.left = node(x);
        n.right = newLeaf(states);
        n.left.parent = n;
        n.right.parent = n;
        inner[inners++] = n;
        return n.right.number;
    }

    int mutate(int x, int states) {
        if (node(x) == null || x > 7) {
            return -1;
        }
        if (states < 0 || states > 255) {
            return -2;
        }
        int[] old = leaf[x].states;
        leaf[x].states = digits(states);
        return old[0] * 64 + old[1] * 16 + old[2] * 4 + old[3];
    }

    int swap(int x, int y) {
        Node a = node(x);
        Node b = node(y);
        if (a == null || b == null) {
            return -1;
        }
        if (a == b || above(a, b) || above(b, a)) {
            return -2;
        }
        Node standIn = new Node(-1);
        takePlace(standIn, a);
        takePlace(a, b);
        takePlace(b, standIn);
        return 0;
    }

    int move(int x, int y) {
        Node a = node(x);
        Node b = node(y);
        if (a == null || b == null) {
            return -1;
        }
        if (a == root) {
            return -2;
        }
        if (b == a || above(a, b) || b == a.parent) {
            return -3;
        }
        Node p = a.parent;
        takePlace(p.left == a ? p.right : p.left, p);
        takePlace(p, b);
        p.left = b;
        p.right = a;
        b.parent = p;
        a.parent = p;
        return 0;
    }

    int cost(int from, int to, int value) {
        return set(cost, from, to, value);
    }

    int rate(int from, int to, int value) {
        return set(rate, from, to, value);
    }

    private static int set(int[][] table, int from, int to, int value) {
        if (from < 0 || from > 3 || to < 0 || to > 3) {
            return -1;
        }
        if (value < 0 || value > 9) {
            return -2;
        }
        int before = table[from][to];
        table[from][to] = value;
        return before;
    }

    int leaves() {
        return leaves;
    }

    int root() {
        return root.number;
    }

    int parent(int x) {
        if (node(x) == null) {
            return -1;
        }
        return node(x).parent == null ? -2 : node(x).parent.number;
    }

    int leavesBelow(int x) {
        return node(x) == null ? -1 : below(node(x));
    }

    private static int below(Node n) {
        return n.left == null ? 1 << n.number : below(n.left) | below(n.right);
    }

    int meet(int x, int y) {
        if (node(x) == null || node(y) == null) {
            return -1;
        }
        int both = below(node(x)) | below(node(y));
        Node n = root;
        while (n.left != null) {
            if ((below(n.left) & both) == both) {
                n = n.left;
            } else if ((below(n.right) & both) == both) {
                n = n.right;
            } else {
                break;
            }
        }
        return n.number;
    }

    /** What all assignments for a site come to. */
    private final class Sum {
        int least = Integer.MAX_VALUE;
        int ways = 0;
        int[] states = new int[14];
        long weight = 0;

        Sum(int site) {
            int[] state = new int[14];
            for (int x = 0; x < leaves; x++) {
                state[x] = leaf[x].states[site];
            }
            List<Node> all = nodes();
            for (int assignment = 0; assignment < 1 << 2 * inners; assignment++) {
                for (int i = 0; i < inners; i++) {
                    state[8 + i] = assignment >> 2 * i & 3;
                }
                add(all, state);
            }
        }

        private void add(List<Node> all, int[] state) {
            int changes = 0;
            long product = 1;
            for (Node n : all) {
                if (n.parent != null) {
                    changes += cost[state[n.parent.number]][state[n.number]];
                    product *= rate[state[n.parent.number]][state[n.number]];
                }
            }
            weight += product;
            if (changes < least) {
                least = changes;
                ways = 0;
                states = new int[14];
            }
            if (changes == least) {
                ways++;
                for (Node n : all) {
                    states[n.number] |= 1 << state[n.number];
                }
            }
        }
    }

    private static boolean isSite(int site) {
        return site >= 0 && site <= 3;
    }

    int least(int site) {
        return isSite(site) ? new Sum(site).least : -1;
    }

    int total() {
        return least(0) + least(1) + least(2) + least(3);
    }

    int ways(int site) {
        return isSite(site) ? new Sum(site).ways : -1;
    }

    int states(int x, int site) {
        if (node(x) == null) {
            return -1;
        }
        return isSite(site) ? new Sum(site).states[x] : -2;
    }

    long weight(int site) {
        return isSite(site) ? new Sum(site).weight : -1;
    }

    int bestPlace(int states) {
        if (states < 0 || states > 255) {
            return -1;
        }
        if (leaves == 7) {
            return -2;
        }
        int best = -1;
        int bestTotal = Integer.MAX_VALUE;
        for (Node n : nodes()) {
            Model m = copy();
            m.attach(n.number, states);
            int total = m.total();
            if (total < bestTotal) {
                bestTotal = total;
                best = n.number;
            }
        }
        return best;
    }

    int keptBy(int x, int y) {
        Model m = copy();
        int refusal = m.swap(x, y);
        if (refusal != 0) {
            return refusal;
        }
        Set<Integer> kept = sets();
        kept.retainAll(m.sets());
        return kept.size();
    }

    private Set<Integer> sets() {
        Set<Integer> sets = new TreeSet<>();
        for (Node n : nodes()) {
            int set = below(n);
            if (Integer.bitCount(set) >= 2 && Integer.bitCount(set) < leaves) {
                sets.add(set);
            }
        }
        return sets;
    }
}
