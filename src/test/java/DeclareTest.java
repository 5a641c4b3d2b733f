/** Promises 3 and 4: declare, arityOf. */
public final class DeclareTest {
    private static final Due DUE = new Due("DeclareTest");

    public static void main(String[] args) {
        checkAccepted();
        checkWrongArguments();
        checkBusy();
        checkOldBoundsAreForgotten();
        checkOthersStay();
        checkResultIsForgotten();
        checkArityOf();
        DUE.end();
    }

    private static void checkAccepted() {
        for (int n = 1; n <= 4; n++) {
            for (int rel = 0; rel < 4; rel++) {
                RelationFinder x = new RelationFinder(n, 4);
                DUE.is("declare(" + rel + ", 2)", x.declare(rel, 2), 0);
                DUE.is("arityOf", x.arityOf(rel), 2);
                DUE.is("freeCount", x.freeCount(), 3 * n + n * n);
                DUE.is("boundOf its last tuple", x.boundOf(rel, n - 1, n - 1), 0);
                DUE.is("declare(" + rel + ", 1)", x.declare(rel, 1), 0);
                DUE.is("arityOf", x.arityOf(rel), 1);
                DUE.is("freeCount", x.freeCount(), 4 * n);
            }
        }
    }

    private static void checkWrongArguments() {
        for (int relations = 1; relations <= 4; relations++) {
            RelationFinder x = new RelationFinder(2, relations);
            x.declare(0, 2);
            x.bound(0, 1, 1, RelationFinder.REQUIRE);
            String before = Calls.picture(x);
            for (int rel : Calls.EDGES) {
                for (int arity : Calls.EDGES) {
                    boolean good = rel >= 0 && rel < relations && (arity == 1 || arity == 2);
                    if (!good) {
                        DUE.is("declare(" + rel + ", " + arity + ")", x.declare(rel, arity), RelationFinder.ERR_ARG);
                    }
                }
            }
            DUE.is("refused declares", Calls.picture(x), before);
        }
    }

    private static void checkBusy() {
        RelationFinder x = new RelationFinder(2, 2);
        x.bound(0, 1, 0, RelationFinder.REQUIRE);
        Calls.feed(x, RelationFinder.K_REL, 0, RelationFinder.K_SOME, 0);
        DUE.is("solve()", x.solve(), RelationFinder.SAT);
        String before = Calls.picture(x);
        DUE.is("declare(0, 1) with tokens", x.declare(0, 1), RelationFinder.ERR_BUSY);
        DUE.is("declare(1, 2) with tokens", x.declare(1, 2), RelationFinder.ERR_BUSY);
        DUE.is("declare(2, 2) with tokens", x.declare(2, 2), RelationFinder.ERR_ARG);
        DUE.is("declare(0, 3) with tokens", x.declare(0, 3), RelationFinder.ERR_ARG);
        DUE.is("declares with tokens", Calls.picture(x), before);
        x.clearFormula();
        DUE.is("declare(1, 2) after clearFormula", x.declare(1, 2), 0);
    }

    private static void checkOldBoundsAreForgotten() {
        for (int from = 1; from <= 2; from++) {
            for (int to = 1; to <= 2; to++) {
                RelationFinder x = new RelationFinder(3, 1);
                x.declare(0, from);
                for (int a = 0; a < 3; a++) {
                    x.bound(0, a, 0, 1 + a % 2);
                    x.bound(0, a, 2, 2 - a % 2);
                }
                DUE.is("declare(0, " + to + ")", x.declare(0, to), 0);
                DUE.is("freeCount", x.freeCount(), to == 1 ? 3 : 9);
                for (int a = 0; a < 3; a++) {
                    DUE.is("boundOf(0, " + a + ", 0)", x.boundOf(0, a, 0), 0);
                    DUE.is("boundOf(0, " + a + ", 2)", x.boundOf(0, a, 2), to == 1 ? -1 : 0);
                }
            }
        }
    }

    private static void checkOthersStay() {
        RelationFinder x = new RelationFinder(2, 3);
        x.declare(0, 2);
        x.bound(0, 1, 0, RelationFinder.REQUIRE);
        x.bound(2, 1, 0, RelationFinder.EXCLUDE);
        x.declare(1, 2);
        DUE.is("arityOf(0)", x.arityOf(0), 2);
        DUE.is("arityOf(2)", x.arityOf(2), 1);
        DUE.is("boundOf(0, 1, 0)", x.boundOf(0, 1, 0), RelationFinder.REQUIRE);
        DUE.is("boundOf(2, 1, 0)", x.boundOf(2, 1, 0), RelationFinder.EXCLUDE);
        DUE.is("freeCount()", x.freeCount(), 3 + 4 + 1);
    }

    /** Tokens keep declare from being accepted after a solve, so an accepted one always meets NOT_SOLVED. */
    private static void checkResultIsForgotten() {
        RelationFinder x = new RelationFinder(2, 1);
        Calls.feed(x, RelationFinder.K_REL, 0, RelationFinder.K_SOME, 0);
        x.solve();
        x.clearFormula();
        x.declare(0, 1);
        DUE.is("status()", x.status(), RelationFinder.NOT_SOLVED);
        DUE.is("has(0, 1, 0)", x.has(0, 1, 0), -1);
    }

    private static void checkArityOf() {
        for (int relations = 1; relations <= 4; relations++) {
            RelationFinder x = new RelationFinder(2, relations);
            x.declare(relations - 1, 2);
            String before = Calls.picture(x);
            for (int rel : Calls.EDGES) {
                int want = rel < 0 || rel >= relations ? -1 : rel == relations - 1 ? 2 : 1;
                DUE.is("arityOf(" + rel + ")", x.arityOf(rel), want);
            }
            DUE.is("arityOf", Calls.picture(x), before);
        }
    }
}
