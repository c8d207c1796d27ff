/** Long mixed runs of calls, good and wrong ones, each answer beside that of the plain model. */
final class ModelTest {
    private static final int OBJECTS = 60;
    /** The document's bound for the calls on an object. */
    private static final int CALLS = 512;
    private static final Check check = new Check("ModelTest");
    private static long seed = 20261115;

    private ModelTest() {
    }

    /** A number 0 .. bound - 1, the same ones in every run of the test. */
    private static int next(int bound) {
        seed = seed * 6364136223846793005L + 1442695040888963407L;
        return (int) ((seed >>> 33) % bound);
    }

    private static int node() {
        return next(40) == 0 ? Trees.NO_NODES[next(Trees.NO_NODES.length)] : next(14);
    }

    private static int digit() {
        return next(20) == 0 ? Trees.NO_DIGITS[next(Trees.NO_DIGITS.length)] : next(4);
    }

    private static int code() {
        return next(20) == 0 ? Trees.NO_CODES[next(Trees.NO_CODES.length)] : next(256);
    }

    private static int cost() {
        return next(20) == 0 ? Trees.NO_COSTS[next(Trees.NO_COSTS.length)] : next(10);
    }

    private static void changeOnce(BranchTrees t, Model m, String run) {
        int x = node();
        int y = node();
        int from = digit();
        int to = digit();
        int code = code();
        int value = cost();
        switch (next(8)) {
            case 0 -> check.due(run + "attach(" + x + ", " + code + ")", t.attach(x, code), m.attach(x, code));
            case 1 -> check.due(run + "mutate(" + x + ", " + code + ")", t.mutate(x, code), m.mutate(x, code));
            case 2, 3 -> check.due(run + "swap(" + x + ", " + y + ")", t.swap(x, y), m.swap(x, y));
            case 4, 5 -> check.due(run + "move(" + x + ", " + y + ")", t.move(x, y), m.move(x, y));
            case 6 -> check.due(run + "cost(" + from + ", " + to + ", " + value + ")",
                    t.cost(from, to, value), m.cost(from, to, value));
            default -> check.due(run + "rate(" + from + ", " + to + ", " + value + ")",
                    t.rate(from, to, value), m.rate(from, to, value));
        }
    }

    private static void askOnce(BranchTrees t, Model m, String run) {
        int x = node();
        int y = node();
        int site = digit();
        int code = code();
        switch (next(12)) {
            case 0 -> check.due(run + "leaves()", t.leaves(), m.leaves());
            case 1 -> check.due(run + "root()", t.root(), m.root());
            case 2 -> check.due(run + "parent(" + x + ")", t.parent(x), m.parent(x));
            case 3 -> check.due(run + "leavesBelow(" + x + ")", t.leavesBelow(x), m.leavesBelow(x));
            case 4 -> check.due(run + "meet(" + x + ", " + y + ")", t.meet(x, y), m.meet(x, y));
            case 5 -> check.due(run + "least(" + site + ")", t.least(site), m.least(site));
            case 6 -> check.due(run + "total()", t.total(), m.total());
            case 7 -> check.due(run + "ways(" + site + ")", t.ways(site), m.ways(site));
            case 8 -> check.due(run + "states(" + x + ", " + site + ")", t.states(x, site), m.states(x, site));
            case 9 -> check.due(run + "weight(" + site + ")", t.weight(site), m.weight(site));
            case 10 -> check.due(run + "bestPlace(" + code + ")", t.bestPlace(code), m.bestPlace(code));
            default -> check.due(run + "keptBy(" + x + ", " + y + ")", t.keptBy(x, y), m.keptBy(x, y));
        }
    }

    private static void growTo(int leaves, BranchTrees t, Model m, String run) {
        // Tries that are refused count too, so they have a bound of their own.
        for (int call = 0; call < 60 && m.leaves() < leaves; call++) {
            int x = node();
            int code = code();
            check.due(run + "attach(" + x + ", " + code + ")", t.attach(x, code), m.attach(x, code));
        }
    }

    private static void runOne(int object) {
        int code = code();
        BranchTrees t = new BranchTrees(code);
        Model m = new Model(code);
        String run = "object " + object + " (made with " + code + "): ";
        growTo(1 + object % 7, t, m, run);
        int wrongBefore = check.wrong();
        for (int call = 60; call < CALLS && check.wrong() == wrongBefore; call++) {
            String at = run + "call " + call + ", ";
            if (next(3) == 0) {
                changeOnce(t, m, at);
            } else {
                askOnce(t, m, at);
            }
        }
    }

    public static void main(String[] args) {
        for (int object = 0; object < OBJECTS; object++) {
            runOne(object);
        }
        check.end();
    }
}
