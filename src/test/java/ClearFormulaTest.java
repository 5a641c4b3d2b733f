/** Promise 9: clearFormula. */
public final class ClearFormulaTest {
    private static final Due DUE = new Due("ClearFormulaTest");

    public static void main(String[] args) {
        checkEmptiesAll();
        checkWithoutTokens();
        checkNothingOfTheOldFormulaIsLeft();
        DUE.end();
    }

    private static RelationFinder bounded() {
        RelationFinder x = new RelationFinder(2, 3);
        x.declare(1, 2);
        x.bound(0, 1, 0, RelationFinder.REQUIRE);
        x.bound(1, 1, 0, RelationFinder.EXCLUDE);
        return x;
    }

    private static void checkEmptiesAll() {
        for (int solved = 0; solved < 3; solved++) {
            RelationFinder x = bounded();
            String before = Calls.picture(x);
            Calls.feed(x, RelationFinder.K_REL, 0, solved == 2 ? RelationFinder.K_NO : RelationFinder.K_SOME, 0);
            if (solved > 0) {
                DUE.is("solve()", x.solve(), solved);
            }
            x.clearFormula();
            DUE.is("all getters after clearFormula", Calls.picture(x), before);
            DUE.is("solve() after clearFormula", x.solve(), RelationFinder.ERR_NOT_FORMULA);
        }
        RelationFinder x = bounded();
        String before = Calls.picture(x);
        Calls.feed(x, RelationFinder.K_VAR, 1, RelationFinder.K_IDEN, 0, RelationFinder.K_UNIV, 0);
        x.clearFormula();
        DUE.is("all getters after an unfinished formula", Calls.picture(x), before);
    }

    private static void checkWithoutTokens() {
        RelationFinder x = bounded();
        String before = Calls.picture(x);
        x.clearFormula();
        x.clearFormula();
        DUE.is("all getters", Calls.picture(x), before);
        DUE.is("declare(0, 2)", x.declare(0, 2), 0);
    }

    private static void checkNothingOfTheOldFormulaIsLeft() {
        RelationFinder x = new RelationFinder(3, 1);
        Calls.feed(x, RelationFinder.K_VAR, 2, RelationFinder.K_REL, 0, RelationFinder.K_IN, 0);
        Calls.feed(x, RelationFinder.K_ALL, 2);
        DUE.is("solve()", x.solve(), RelationFinder.SAT);
        DUE.is("instanceSize(0)", x.instanceSize(0), 3);
        x.clearFormula();
        DUE.is("the first token anew", x.add(RelationFinder.K_REL, 0), 1);
        DUE.is("stackEntry(0)", x.stackEntry(0), RelationFinder.E_UNARY);
        Calls.feed(x, RelationFinder.K_NO, 0);
        DUE.is("tokenCount()", x.tokenCount(), 2);
        DUE.is("token(2)", x.token(2), -1);
        DUE.is("solve() anew", x.solve(), RelationFinder.SAT);
        DUE.is("instanceSize(0) anew", x.instanceSize(0), 0);
    }
}
