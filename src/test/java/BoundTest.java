/** Promises 5, 6 and 7: bound, boundOf, freeCount. */
public final class BoundTest {
    private static final Due DUE = new Due("BoundTest");

    public static void main(String[] args) {
        for (int n = 1; n <= 4; n++) {
            checkEveryTuple(n);
            checkWrongArguments(n, 1);
            checkWrongArguments(n, 2);
        }
        checkWhileTokensExist();
        checkResultIsForgotten();
        DUE.end();
    }

    /** Walks every tuple of every relation through the modes and looks that no other one moves. */
    private static void checkEveryTuple(int n) {
        RelationFinder x = new RelationFinder(n, 4);
        x.declare(1, 2);
        x.declare(3, 2);
        int[][] modes = new int[4][16];
        int free = 2 * n + 2 * n * n;
        int[] walk = {1, 1, 2, 2, 0, 0, 2, 1, 0, 1};
        for (int mode : walk) {
            for (int rel = 0; rel < 4; rel++) {
                for (int a = 0; a < n; a++) {
                    for (int b = 0; b < (rel % 2 == 0 ? 1 : n); b++) {
                        free += (mode == 0 ? 1 : 0) - (modes[rel][a * n + b] == 0 ? 1 : 0);
                        modes[rel][a * n + b] = mode;
                        String call = "bound(" + rel + ", " + a + ", " + b + ", " + mode + ")";
                        DUE.is(call, x.bound(rel, a, b, mode), free);
                        DUE.is("freeCount() after " + call, x.freeCount(), free);
                        checkModes(x, n, modes, call);
                    }
                }
            }
        }
    }

    private static void checkModes(RelationFinder x, int n, int[][] modes, String call) {
        for (int rel = 0; rel < 4; rel++) {
            for (int a = 0; a < n; a++) {
                for (int b = 0; b < n; b++) {
                    int want = rel % 2 == 0 && b != 0 ? -1 : modes[rel][a * n + b];
                    DUE.is("boundOf(" + rel + ", " + a + ", " + b + ") after " + call, x.boundOf(rel, a, b), want);
                }
            }
        }
    }

    private static boolean isTuple(int n, int arity, int rel, int a, int b) {
        return rel >= 0 && rel < 2 && a >= 0 && a < n && (arity == 1 ? b == 0 : b >= 0 && b < n);
    }

    private static void checkWrongArguments(int n, int arity) {
        RelationFinder x = new RelationFinder(n, 2);
        x.declare(0, arity);
        x.declare(1, arity);
        x.bound(0, 0, 0, RelationFinder.REQUIRE);
        Calls.feed(x, RelationFinder.K_UNIV, 0);
        String before = Calls.picture(x);
        for (int rel : Calls.EDGES) {
            for (int a : Calls.EDGES) {
                for (int b : Calls.EDGES) {
                    boolean tuple = isTuple(n, arity, rel, a, b);
                    if (!tuple) {
                        DUE.is("boundOf(" + rel + ", " + a + ", " + b + ")", x.boundOf(rel, a, b), -1);
                    }
                    for (int mode : Calls.EDGES) {
                        if (!tuple || mode < 0 || mode > 2) {
                            String call = "bound(" + rel + ", " + a + ", " + b + ", " + mode + ")";
                            DUE.is(call, x.bound(rel, a, b, mode), RelationFinder.ERR_ARG);
                        }
                    }
                }
            }
        }
        DUE.is("refused bounds", Calls.picture(x), before);
    }

    private static void checkWhileTokensExist() {
        RelationFinder x = new RelationFinder(2, 2);
        x.declare(1, 2);
        Calls.feed(x, RelationFinder.K_VAR, 2, RelationFinder.K_REL, 1, RelationFinder.K_JOIN, 0);
        DUE.is("bound(1, 1, 0, REQUIRE)", x.bound(1, 1, 0, RelationFinder.REQUIRE), 5);
        DUE.is("tokenCount()", x.tokenCount(), 3);
        DUE.is("token(2)", x.token(2), 128);
        DUE.is("stackEntry(0)", x.stackEntry(0), RelationFinder.E_UNARY + 4 * 4);
        DUE.is("arityOf(1)", x.arityOf(1), 2);
    }

    private static void checkResultIsForgotten() {
        for (int mode = 0; mode <= 2; mode++) {
            RelationFinder x = new RelationFinder(2, 1);
            x.bound(0, 0, 0, mode);
            Calls.feed(x, RelationFinder.K_UNIV, 0, RelationFinder.K_SOME, 0);
            DUE.is("solve()", x.solve(), RelationFinder.SAT);
            x.bound(0, 0, 0, mode);
            DUE.is("status() after a bound that changed no mode", x.status(), RelationFinder.NOT_SOLVED);
            DUE.is("has(0, 0, 0)", x.has(0, 0, 0), -1);
            DUE.is("instanceSize(0)", x.instanceSize(0), -1);
        }
    }
}
