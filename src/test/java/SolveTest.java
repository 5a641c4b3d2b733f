/** Promises 12 to 15: solve, status, has, instanceSize. */
public final class SolveTest {
    private static final Due DUE = new Due("SolveTest");

    public static void main(String[] args) {
        checkNotFormula();
        checkFreeVariable();
        checkTooBig();
        checkOrderOfConditions();
        checkRefusalKeepsInstance();
        checkLeastModel();
        checkOrderOfPositions();
        checkBounds();
        checkNoFreeTuples();
        checkUnsat();
        checkSolvingAgain();
        checkChangesNothingElse();
        checkInstanceArguments();
        DUE.end();
    }

    private static void checkNotFormula() {
        int[][] formulas = {{}, {3, 0}, {4, 0}, {3, 0, 14, 0, 3, 0}, {3, 0, 14, 0, 3, 0, 14, 0}, {2, 0}, {3, 0, 3, 0}};
        for (int[] formula : formulas) {
            RelationFinder x = new RelationFinder(2, 1);
            Calls.feed(x, formula);
            String before = Calls.picture(x);
            DUE.is("solve()", x.solve(), RelationFinder.ERR_NOT_FORMULA);
            DUE.is("refused solve", Calls.picture(x), before);
        }
    }

    private static void checkFreeVariable() {
        for (int variable = 0; variable < 3; variable++) {
            RelationFinder x = new RelationFinder(2, 1);
            Calls.feed(x, 2, variable, 14, 0);
            String before = Calls.picture(x);
            DUE.is("solve()", x.solve(), RelationFinder.ERR_FREE_VAR);
            DUE.is("refused solve", Calls.picture(x), before);
            Calls.feed(x, 21, variable);
            DUE.is("solve() when bound", x.solve(), RelationFinder.SAT);
        }
    }

    private static void checkTooBig() {
        RelationFinder x = new RelationFinder(4, 1);
        x.declare(0, 2);
        Calls.feed(x, 1, 0, 14, 0);
        for (int i = 0; i < 3; i++) {
            x.bound(0, i, i, RelationFinder.EXCLUDE);
        }
        String before = Calls.picture(x);
        DUE.is("freeCount()", x.freeCount(), 13);
        DUE.is("solve() with 13", x.solve(), RelationFinder.ERR_TOO_BIG);
        DUE.is("refused solve", Calls.picture(x), before);
        DUE.is("bound", x.bound(0, 3, 3, RelationFinder.EXCLUDE), 12);
        DUE.is("solve() with 12", x.solve(), RelationFinder.SAT);
        DUE.is("the least", Calls.tuples(x, 0), "32");
    }

    private static void checkOrderOfConditions() {
        RelationFinder x = new RelationFinder(4, 4);
        DUE.is("ERR_NOT_FORMULA before ERR_TOO_BIG", x.solve(), RelationFinder.ERR_NOT_FORMULA);
        Calls.feed(x, 2, 0);
        DUE.is("ERR_NOT_FORMULA before ERR_FREE_VAR", x.solve(), RelationFinder.ERR_NOT_FORMULA);
        Calls.feed(x, 14, 0);
        DUE.is("ERR_FREE_VAR before ERR_TOO_BIG", x.solve(), RelationFinder.ERR_FREE_VAR);
        Calls.feed(x, 22, 0);
        DUE.is("ERR_TOO_BIG at last", x.solve(), RelationFinder.ERR_TOO_BIG);
    }

    /** Every way to be refused by any method, after a SAT and after an UNSAT. */
    private static void checkRefusalKeepsInstance() {
        for (int kind = 14; kind <= 15; kind++) {
            RelationFinder x = new RelationFinder(2, 1);
            x.bound(0, 1, 0, RelationFinder.REQUIRE);
            Calls.feed(x, 1, 0, kind, 0);
            DUE.is("solve()", x.solve(), kind == 14 ? RelationFinder.SAT : RelationFinder.UNSAT);
            String before = Calls.picture(x);
            DUE.is("add(0, 0)", x.add(0, 0), RelationFinder.ERR_KIND);
            DUE.is("add(1, 1)", x.add(1, 1), RelationFinder.ERR_ARG);
            DUE.is("add(18, 0)", x.add(18, 0), RelationFinder.ERR_STACK);
            DUE.is("add(14, 0)", x.add(14, 0), RelationFinder.ERR_TYPE);
            DUE.is("declare(0, 1)", x.declare(0, 1), RelationFinder.ERR_BUSY);
            DUE.is("declare(1, 1)", x.declare(1, 1), RelationFinder.ERR_ARG);
            DUE.is("bound(0, 0, 0, 3)", x.bound(0, 0, 0, 3), RelationFinder.ERR_ARG);
            DUE.is("bound(0, 0, 1, 0)", x.bound(0, 0, 1, 0), RelationFinder.ERR_ARG);
            DUE.is("all getters after refusals", Calls.picture(x), before);
        }
    }

    private static void checkLeastModel() {
        RelationFinder x = new RelationFinder(4, 3);
        // some r0 and (r0 in r1) and some (r1 minus r0) and no r2
        Calls.feed(x, 1, 0, 14, 0, 1, 0, 1, 1, 12, 0, 18, 0, 1, 1, 1, 0, 7, 0, 14, 0, 18, 0, 1, 2, 15, 0, 18, 0);
        DUE.is("solve()", x.solve(), RelationFinder.SAT);
        DUE.is("r0", Calls.tuples(x, 0), "3");
        DUE.is("r1", Calls.tuples(x, 1), "2 3");
        DUE.is("r2", Calls.tuples(x, 2), "");
        DUE.is("instanceSize(0)", x.instanceSize(0), 1);
        DUE.is("instanceSize(1)", x.instanceSize(1), 2);
        DUE.is("instanceSize(2)", x.instanceSize(2), 0);
    }

    /** 'some r0 or some r1 or ...' is met by the last position alone; excluding it leaves the one before. */
    private static void checkOrderOfPositions() {
        for (int n = 1; n <= 4; n++) {
            RelationFinder x = new RelationFinder(n, n == 4 ? 2 : 3);
            x.declare(1, 2);
            int relations = n == 4 ? 2 : 3;
            Calls.feed(x, 1, 0, 14, 0);
            for (int rel = 1; rel < relations; rel++) {
                Calls.feed(x, 1, rel, 14, 0, 19, 0);
            }
            for (int rel = relations - 1; rel >= 0; rel--) {
                boolean binary = rel == 1;
                for (int tuple = (binary ? n * n : n) - 1; tuple >= 0; tuple--) {
                    int a = binary ? tuple / n : tuple;
                    int b = binary ? tuple % n : 0;
                    if (x.freeCount() <= RelationFinder.MAX_FREE) {
                        DUE.is("solve() of " + n, x.solve(), RelationFinder.SAT);
                        DUE.is("has(" + rel + ", " + a + ", " + b + ")", x.has(rel, a, b), 1);
                        DUE.is("all tuples", sizeOfAll(x, relations), 1);
                    } else {
                        DUE.is("solve() of " + n, x.solve(), RelationFinder.ERR_TOO_BIG);
                    }
                    x.bound(rel, a, b, RelationFinder.EXCLUDE);
                }
            }
            DUE.is("solve() at last", x.solve(), RelationFinder.UNSAT);
        }
    }

    private static int sizeOfAll(RelationFinder x, int relations) {
        int size = 0;
        for (int rel = 0; rel < relations; rel++) {
            size += x.instanceSize(rel);
        }
        return size;
    }

    private static void checkBounds() {
        RelationFinder x = new RelationFinder(3, 2);
        x.declare(0, 2);
        x.bound(0, 0, 0, RelationFinder.REQUIRE);
        x.bound(0, 2, 1, RelationFinder.EXCLUDE);
        x.bound(0, 2, 2, RelationFinder.EXCLUDE);
        x.bound(1, 1, 0, RelationFinder.REQUIRE);
        // not one r0 and some r1
        Calls.feed(x, 1, 0, 16, 0, 17, 0, 1, 1, 14, 0, 18, 0);
        DUE.is("solve()", x.solve(), RelationFinder.SAT);
        DUE.is("r0", Calls.tuples(x, 0), "00 20");
        DUE.is("r1", Calls.tuples(x, 1), "1");
        x.bound(0, 2, 2, RelationFinder.FREE);
        DUE.is("status()", x.status(), RelationFinder.NOT_SOLVED);
        DUE.is("solve()", x.solve(), RelationFinder.SAT);
        DUE.is("r0", Calls.tuples(x, 0), "00 22");
    }

    private static void checkNoFreeTuples() {
        RelationFinder x = new RelationFinder(4, 4);
        for (int rel = 0; rel < 4; rel++) {
            x.declare(rel, 2);
            for (int a = 0; a < 4; a++) {
                for (int b = 0; b < 4; b++) {
                    x.bound(rel, a, b, rel == 3 ? RelationFinder.REQUIRE : RelationFinder.EXCLUDE);
                }
            }
        }
        Calls.feed(x, 1, 3, 14, 0);
        DUE.is("solve()", x.solve(), RelationFinder.SAT);
        DUE.is("instanceSize(3)", x.instanceSize(3), 16);
        DUE.is("instanceSize(2)", x.instanceSize(2), 0);
        Calls.feed(x, 17, 0);
        DUE.is("solve() of the opposite", x.solve(), RelationFinder.UNSAT);
    }

    private static void checkUnsat() {
        RelationFinder x = new RelationFinder(3, 1);
        Calls.feed(x, 1, 0, 14, 0, 1, 0, 15, 0, 18, 0);
        DUE.is("solve()", x.solve(), RelationFinder.UNSAT);
        DUE.is("status()", x.status(), RelationFinder.UNSAT);
        DUE.is("has(0, 0, 0)", x.has(0, 0, 0), -1);
        DUE.is("instanceSize(0)", x.instanceSize(0), -1);
        Calls.feed(x, 17, 0);
        DUE.is("status() after a token", x.status(), RelationFinder.NOT_SOLVED);
        DUE.is("solve() of the opposite", x.solve(), RelationFinder.SAT);
        DUE.is("instanceSize(0)", x.instanceSize(0), 0);
    }

    private static void checkSolvingAgain() {
        RelationFinder x = new RelationFinder(3, 2);
        x.declare(1, 2);
        Calls.feed(x, 1, 0, 1, 1, 8, 0, 16, 0);
        DUE.is("solve()", x.solve(), RelationFinder.SAT);
        String first = Calls.picture(x);
        for (int i = 0; i < 3; i++) {
            DUE.is("solve() again", x.solve(), RelationFinder.SAT);
            DUE.is("all getters", Calls.picture(x), first);
        }
    }

    private static void checkChangesNothingElse() {
        RelationFinder x = new RelationFinder(2, 2);
        x.declare(1, 2);
        x.bound(1, 0, 1, RelationFinder.REQUIRE);
        Calls.feed(x, 2, 0, 1, 1, 8, 0, 14, 0, 22, 0);
        String before = Calls.picture(x);
        DUE.is("solve()", x.solve(), RelationFinder.SAT);
        x.bound(1, 0, 1, RelationFinder.REQUIRE);
        DUE.is("all getters", Calls.picture(x), before);
    }

    private static void checkInstanceArguments() {
        RelationFinder x = new RelationFinder(3, 2);
        x.declare(1, 2);
        Calls.fix(x, 0, 0, 0, 2, 0);
        Calls.fix(x, 1, 0, 1, 1, 2, 2, 2);
        Calls.feed(x, 3, 0, 14, 0);
        checkNoInstance(x);
        DUE.is("solve()", x.solve(), RelationFinder.SAT);
        String before = Calls.picture(x);
        for (int rel : Calls.EDGES) {
            DUE.is("instanceSize(" + rel + ")", x.instanceSize(rel), rel == 0 ? 2 : rel == 1 ? 3 : -1);
            for (int a : Calls.EDGES) {
                for (int b : Calls.EDGES) {
                    DUE.is("has(" + rel + ", " + a + ", " + b + ")", x.has(rel, a, b), wantHas(rel, a, b));
                }
            }
        }
        DUE.is("has and instanceSize", Calls.picture(x), before);
        Calls.feed(x, 17, 0);
        checkNoInstance(x);
        DUE.is("solve()", x.solve(), RelationFinder.UNSAT);
        checkNoInstance(x);
    }

    private static int wantHas(int rel, int a, int b) {
        if (a < 0 || a > 2) {
            return -1;
        }
        if (rel == 0) {
            return b != 0 ? -1 : a == 1 ? 0 : 1;
        }
        return rel != 1 || b < 0 || b > 2 ? -1 : b == Math.min(2, a + 1) ? 1 : 0;
    }

    private static void checkNoInstance(RelationFinder x) {
        for (int rel : Calls.EDGES) {
            DUE.is("instanceSize(" + rel + ") without instance", x.instanceSize(rel), -1);
            DUE.is("has(" + rel + ", 0, 0) without instance", x.has(rel, 0, 0), -1);
            DUE.is("has(" + rel + ", 0, 9) without instance", x.has(rel, 0, 9), -1);
        }
    }
}
