/** Promise 14, sentence by sentence: has. */
public final class Promise14Test {
    private static final Due DUE = new Due("Promise14Test");

    public static void main(String[] args) {
        DUE.check(Promise14Test::checkEveryTuple, Promise14Test::checkFullAndEmpty,
            Promise14Test::checkWithoutInstance, Promise14Test::checkWrongRelation,
            Promise14Test::checkWrongFirstAtom, Promise14Test::checkWrongSecondOfUnary,
            Promise14Test::checkWrongSecondOfBinary, Promise14Test::checkChangesNothing);
        DUE.end();
    }

    /** r0 is unary and r1 binary, both full, so that a wrong tuple that is looked for anyway is found. */
    private static RelationFinder solved(int n) {
        RelationFinder x = Words.world(n, Words.full(n, 1), Words.full(n, 2));
        DUE.is("solve()", Words.solve(x, "univ some"), RelationFinder.SAT);
        return x;
    }

    private static void none(RelationFinder x, int rel, int a, int b) {
        DUE.is("has(" + rel + ", " + a + ", " + b + ") with N = " + x.atoms(), x.has(rel, a, b), -1);
    }

    private static void checkEveryTuple() {
        DUE.sentence("`has(rel, a, b)` answers whether the reported instance holds tuple (a, b) of rel: 1 yes, 0 "
            + "no.");
        for (int n = 1; n <= 4; n++) {
            for (int i = 0; i < n + n * n; i++) {
                int rel = i < n ? 0 : 1;
                int a = i < n ? i : (i - n) / n;
                int b = i < n ? 0 : (i - n) % n;
                RelationFinder x = Words.world(n, "1:", "2:");
                x.bound(rel, a, b, RelationFinder.REQUIRE);
                Words.solve(x, "univ some");
                for (int j = 0; j < n + n * n; j++) {
                    int want = i == j ? 1 : 0;
                    String call = "has of tuple " + j + " when only " + i + " is held";
                    DUE.is(call, j < n ? x.has(0, j, 0) : x.has(1, (j - n) / n, (j - n) % n), want);
                }
            }
        }
    }

    private static void checkFullAndEmpty() {
        DUE.sentence("`has(rel, a, b)` answers [..] 1 yes, 0 no. (a full and an empty relation)");
        RelationFinder x = Words.world(4, Words.full(4, 2), "2:");
        Words.solve(x, "univ some");
        for (int a = 0; a < 4; a++) {
            for (int b = 0; b < 4; b++) {
                DUE.is("has(0, " + a + ", " + b + ") of the full one", x.has(0, a, b), 1);
                DUE.is("has(1, " + a + ", " + b + ") of the empty one", x.has(1, a, b), 0);
            }
        }
    }

    /** All refusals of has answer -1, so that what is examined first can't be seen in the answer. */
    private static void checkWithoutInstance() {
        DUE.sentence("It answers -1 if status() != SAT (examined first) (has)");
        RelationFinder changed = solved(4);
        changed.bound(0, 0, 0, RelationFinder.REQUIRE);
        RelationFinder unsat = solved(4);
        Words.feed(unsat, "not");
        DUE.is("solve()", unsat.solve(), RelationFinder.UNSAT);
        RelationFinder cleared = solved(4);
        cleared.clearFormula();
        RelationFinder[] without = {new RelationFinder(4, 2), changed, unsat, cleared, Stages.unsat(),
            Stages.bounded()};
        for (RelationFinder x : without) {
            for (int rel : Numbers.ALL) {
                for (int a : Numbers.ALL) {
                    none(x, rel, a, 0);
                    none(x, rel, 0, a);
                }
            }
        }
    }

    private static void checkWrongRelation() {
        DUE.sentence("It answers -1 [..] when any of the argument conditions 1 to 4 of bound() holds. (1, has)");
        for (int n = 1; n <= 4; n++) {
            RelationFinder x = solved(n);
            for (int rel : Numbers.outside(0, 1)) {
                none(x, rel, 0, 0);
                none(x, rel, n - 1, 0);
            }
        }
    }

    private static void checkWrongFirstAtom() {
        DUE.sentence("It answers -1 [..] when any of the argument conditions 1 to 4 of bound() holds. (2, has)");
        for (int n = 1; n <= 4; n++) {
            RelationFinder x = solved(n);
            for (int a : Numbers.outside(0, n - 1)) {
                none(x, 0, a, 0);
                for (int b = 0; b < n; b++) {
                    none(x, 1, a, b);
                }
            }
        }
    }

    private static void checkWrongSecondOfUnary() {
        DUE.sentence("It answers -1 [..] when any of the argument conditions 1 to 4 of bound() holds. (3, has)");
        for (int n = 1; n <= 4; n++) {
            RelationFinder x = solved(n);
            for (int b : Numbers.outside(0, 0)) {
                for (int a = 0; a < n; a++) {
                    none(x, 0, a, b);
                }
            }
        }
    }

    private static void checkWrongSecondOfBinary() {
        DUE.sentence("It answers -1 [..] when any of the argument conditions 1 to 4 of bound() holds. (4, has)");
        for (int n = 1; n <= 4; n++) {
            RelationFinder x = solved(n);
            for (int b : Numbers.outside(0, n - 1)) {
                for (int a = 0; a < n; a++) {
                    none(x, 1, a, b);
                }
            }
        }
    }

    private static void checkChangesNothing() {
        DUE.sentence("It changes nothing. (has)");
        for (int number : Numbers.ALL) {
            Trace.none(DUE, "has with " + number, x -> {
                for (int rel = -1; rel <= 4; rel++) {
                    x.has(rel, number, 0);
                    x.has(rel, 0, number);
                }
                x.has(number, 0, 0);
            });
        }
    }
}
