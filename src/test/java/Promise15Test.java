/** Promise 15, sentence by sentence: instanceSize. */
public final class Promise15Test {
    private static final Due DUE = new Due("Promise15Test");

    public static void main(String[] args) {
        DUE.check(Promise15Test::checkEverySize, Promise15Test::checkChosenTuples,
            Promise15Test::checkWithoutInstance, Promise15Test::checkWrongRelation,
            Promise15Test::checkChangesNothing);
        DUE.end();
    }

    private static void checkEverySize() {
        DUE.sentence("`instanceSize(rel)` answers the number of tuples of rel in the reported instance.");
        for (int n = 1; n <= 4; n++) {
            for (int size = 0; size <= n * n; size++) {
                RelationFinder x = Words.world(n, "1:", "2:", Words.full(n, 1), Words.full(n, 2));
                for (int i = 0; i < size; i++) {
                    x.bound(1, i / n, i % n, RelationFinder.REQUIRE);
                    x.bound(3, n - 1 - i / n, n - 1 - i % n, RelationFinder.EXCLUDE);
                    if (i < n) {
                        x.bound(0, i, 0, RelationFinder.REQUIRE);
                        x.bound(2, n - 1 - i, 0, RelationFinder.EXCLUDE);
                    }
                }
                DUE.is("solve()", Words.solve(x, "univ some"), RelationFinder.SAT);
                int[] want = {Math.min(size, n), size, n - Math.min(size, n), n * n - size};
                for (int rel = 0; rel < 4; rel++) {
                    DUE.is("instanceSize(" + rel + ") over " + n + " atoms", x.instanceSize(rel), want[rel]);
                }
            }
        }
    }

    private static void checkChosenTuples() {
        DUE.sentence("`instanceSize(rel)` answers the number of tuples of rel in the reported instance. (FREE ones "
            + "too)");
        RelationFinder x = new RelationFinder(3, 2);
        x.declare(0, 2);
        x.bound(0, 1, 1, RelationFinder.REQUIRE);
        DUE.is("solve()", Words.solve(x, "iden r0 in"), RelationFinder.SAT);
        DUE.is("instanceSize(0)", x.instanceSize(0), 3);
        DUE.is("instanceSize(1)", x.instanceSize(1), 0);
        DUE.is("solve()", Words.solve(x, "univ univ product r0 eq r1 one and"), RelationFinder.SAT);
        DUE.is("instanceSize(0)", x.instanceSize(0), 9);
        DUE.is("instanceSize(1)", x.instanceSize(1), 1);
    }

    private static void checkWithoutInstance() {
        DUE.sentence("It answers -1 if status() != SAT (examined first) (instanceSize)");
        RelationFinder changed = Stages.sat();
        changed.bound(0, 0, 0, RelationFinder.REQUIRE);
        RelationFinder cleared = Stages.sat();
        cleared.clearFormula();
        RelationFinder fed = Stages.sat();
        Words.feed(fed, "not");
        RelationFinder[] without = {new RelationFinder(4, 4), Stages.bounded(), Stages.unsat(), changed, cleared, fed};
        for (RelationFinder x : without) {
            for (int rel : Numbers.ALL) {
                DUE.is("instanceSize(" + rel + ") with status " + x.status(), x.instanceSize(rel), -1);
            }
        }
    }

    private static void checkWrongRelation() {
        DUE.sentence("or if rel < 0 or rel >= R. (instanceSize)");
        for (int r = 1; r <= 4; r++) {
            RelationFinder x = new RelationFinder(2, r);
            DUE.is("solve()", Words.solve(x, "univ r0 in univ r" + (r - 1) + " in and"), RelationFinder.SAT);
            for (int rel : Numbers.outside(0, r - 1)) {
                DUE.is("instanceSize(" + rel + ") with R = " + r, x.instanceSize(rel), -1);
            }
            DUE.is("instanceSize(0)", x.instanceSize(0), 2);
            DUE.is("instanceSize(R - 1)", x.instanceSize(r - 1), 2);
        }
    }

    private static void checkChangesNothing() {
        DUE.sentence("It changes nothing. (instanceSize)");
        for (int rel : Numbers.ALL) {
            Trace.none(DUE, "instanceSize(" + rel + ")", x -> x.instanceSize(rel));
        }
    }
}
