/** Promise 1: a new object. */
final class Promise01Test {
    private static final Check check = new Check("Promise01Test");

    private Promise01Test() {
    }

    private static void leafZeroHasTheStates() {
        BranchTrees t = new BranchTrees(Trees.code("0123"));
        check.due("leaves()", t.leaves(), 1);
        check.due("root()", t.root(), 0);
        check.due("parent(0)", t.parent(0), -2);
        check.due("parent(8)", t.parent(8), -1);
        for (int site = 0; site < 4; site++) {
            check.due("states(0, " + site + ")", t.states(0, site), 1 << site);
        }
    }

    /** "states is the number of the states of leaf 0": of each number 0 .. 255, the first and the last among them. */
    private static void everyGoodNumberIsKept() {
        for (int code = 0; code <= 255; code++) {
            BranchTrees t = new BranchTrees(code);
            for (int site = 0; site < 4; site++) {
                int state = code >> 6 - 2 * site & 3;
                check.due("new " + code + ", states(0, " + site + ")", t.states(0, site), 1 << state);
            }
            check.due("new " + code + ", mutate(0, 0)", t.mutate(0, 0), code);
        }
    }

    /** "a number that is not in 0 .. 255 counts as 0": from -1 down and from 256 up, to the least and greatest int. */
    private static void otherNumbersCountAsZero() {
        String zero = Trees.all(new BranchTrees(0));
        for (int code : Trees.NO_CODES) {
            check.due("new " + code + ", mutate(0, 5)", new BranchTrees(code).mutate(0, 5), 0);
            check.same("all of new " + code, Trees.all(new BranchTrees(code)), zero);
        }
    }

    private static void objectsShareNothing() {
        BranchTrees one = new BranchTrees(9);
        BranchTrees other = new BranchTrees(200);
        one.attach(0, 77);
        one.cost(1, 2, 8);
        one.rate(1, 2, 8);
        check.due("the other's leaves()", other.leaves(), 1);
        check.due("the other's cost(1, 2, 0)", other.cost(1, 2, 0), 1);
        check.due("the other's rate(1, 2, 0)", other.rate(1, 2, 0), 1);
        check.due("the other's mutate(0, 0)", other.mutate(0, 0), 200);
        check.due("the one's mutate(0, 0)", one.mutate(0, 0), 9);
    }

    public static void main(String[] args) {
        leafZeroHasTheStates();
        everyGoodNumberIsKept();
        otherNumbersCountAsZero();
        objectsShareNothing();
        check.end();
    }
}
