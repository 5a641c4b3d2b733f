/** Promise 9, sentence by sentence: clearFormula. */
public final class Promise09Test {
    private static final Due DUE = new Due("Promise09Test");

    public static void main(String[] args) {
        DUE.check(Promise09Test::checkRemovesAll, Promise09Test::checkNoTraceLater, Promise09Test::checkWithoutTokens,
            Promise09Test::checkResultIsForgotten, Promise09Test::checkBoundsStay);
        DUE.end();
    }

    private static void checkRemovesAll() {
        DUE.sentence("`clearFormula()` removes all tokens and empties the stack.");
        for (RelationFinder x : Stages.all()) {
            x.clearFormula();
            DUE.is("tokenCount()", x.tokenCount(), 0);
            DUE.is("depth()", x.depth(), 0);
            for (int i = -1; i <= 32; i++) {
                DUE.is("token(" + i + ")", x.token(i), -1);
                DUE.is("stackEntry(" + i + ")", x.stackEntry(i), -1);
            }
            DUE.is("solve()", x.solve(), RelationFinder.ERR_NOT_FORMULA);
            DUE.is("add(K_NOT, 0)", x.add(RelationFinder.K_NOT, 0), RelationFinder.ERR_STACK);
            DUE.is("declare(0, 1)", x.declare(0, 1), 0);
        }
    }

    /** What is fed after clearFormula answers as if it were fed first; as many tokens fit as at the start. */
    private static void checkNoTraceLater() {
        DUE.sentence("`clearFormula()` removes all tokens and empties the stack. (as if there had been none)");
        RelationFinder[] olds = {Stages.fullOfTokens(), Stages.fullStack(), Stages.sat(), Stages.unsat(),
            Stages.fed("v0 v1 product r1 in v2 r0 in and exists0 all1")};
        String[] formulas = {"v2 r0 in exists2", "r1 closure iden inter no", "r0 r1 join r0 eq",
            "univ some" + " not".repeat(30)};
        for (RelationFinder old : olds) {
            for (String formula : formulas) {
                RelationFinder fresh = Stages.bounded();
                DUE.is("solve() of " + formula, Words.solve(old, formula), Words.solve(fresh, formula));
                DUE.is("all getters after it", Calls.picture(old), Calls.picture(fresh));
            }
        }
    }

    private static void checkWithoutTokens() {
        DUE.sentence("It is always accepted, even when there are no tokens");
        for (RelationFinder x : new RelationFinder[] {new RelationFinder(1, 1), Stages.bounded(), Stages.sat()}) {
            x.clearFormula();
            String before = Calls.picture(x);
            x.clearFormula();
            x.clearFormula();
            DUE.is("all getters", Calls.picture(x), before);
            DUE.is("add(K_UNIV, 0)", x.add(RelationFinder.K_UNIV, 0), 1);
            DUE.is("tokenCount()", x.tokenCount(), 1);
        }
    }

    private static void checkResultIsForgotten() {
        DUE.sentence("status becomes NOT_SOLVED and the instance is forgotten (clearFormula)");
        for (RelationFinder x : new RelationFinder[] {Stages.sat(), Stages.unsat(), Stages.bounded()}) {
            x.clearFormula();
            DUE.is("status()", x.status(), RelationFinder.NOT_SOLVED);
            for (int rel = 0; rel < 2; rel++) {
                DUE.is("instanceSize(" + rel + ")", x.instanceSize(rel), -1);
                for (int a = 0; a < 3; a++) {
                    DUE.is("has(" + rel + ", " + a + ", 0)", x.has(rel, a, 0), -1);
                }
            }
        }
    }

    private static void checkBoundsStay() {
        DUE.sentence("Arities and bound modes do not change. (clearFormula)");
        RelationFinder[] olds = {Stages.bounded(), Stages.fed("r1"), Stages.sat(), Stages.unsat(),
            Stages.fullOfTokens()};
        for (RelationFinder x : olds) {
            x.clearFormula();
            DUE.is("all getters after clearFormula", Calls.picture(x), Calls.picture(Stages.bounded()));
        }
    }
}
