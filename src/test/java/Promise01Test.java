/** Promise 1: a new object, and what costs and rates are at first. */
final class Promise01Test {
    private static final Check check = new Check("Promise01Test");

    private Promise01Test() {
    }

    private static void leafZeroHasTheStates() {
        BranchTrees t = new BranchTrees(Trees.code("0123"));
        check.due("leaves()", t.leaves(), 1);
        check.due("root()", t.root(), 0);
        check.due("parent(0)", t.parent(0), -2);
        check.due("parent(8)", t.parent(8), -1);
        for (int site = 0; site < 4; site++) {
            check.due("states(0, " + site + ")", t.states(0, site), 1 << site);
        }
    }

    private static void everyGoodNumberIsKept() {
        for (int code = 0; code < 256; code++) {
            check.due("new " + code + ", mutate(0, 0)", new BranchTrees(code).mutate(0, 0), code);
        }
    }

    private static void otherNumbersCountAsZero() {
        for (int code : Trees.NO_CODES) {
            check.due("new " + code + ", mutate(0, 5)", new BranchTrees(code).mutate(0, 5), 0);
        }
    }

    private static void costsAndRatesAtFirst() {
        BranchTrees t = new BranchTrees(0);
        for (int from = 0; from < 4; from++) {
            for (int to = 0; to < 4; to++) {
                String pair = "(" + from + ", " + to + ", 7)";
                check.due("cost" + pair, t.cost(from, to, 7), from == to ? 0 : 1);
                check.due("rate" + pair, t.rate(from, to, 7), 1);
            }
        }
    }

    private static void objectsShareNothing() {
        BranchTrees one = new BranchTrees(9);
        BranchTrees other = new BranchTrees(200);
        one.attach(0, 77);
        one.cost(1, 2, 8);
        one.rate(1, 2, 8);
        check.due("the other's leaves()", other.leaves(), 1);
        check.due("the other's cost(1, 2, 0)", other.cost(1, 2, 0), 1);
        check.due("the other's rate(1, 2, 0)", other.rate(1, 2, 0), 1);
        check.due("the other's mutate(0, 0)", other.mutate(0, 0), 200);
        check.due("the one's mutate(0, 0)", one.mutate(0, 0), 9);
    }

    public static void main(String[] args) {
        leafZeroHasTheStates();
        everyGoodNumberIsKept();
        otherNumbersCountAsZero();
        costsAndRatesAtFirst();
        objectsShareNothing();
        check.end();
    }
}
