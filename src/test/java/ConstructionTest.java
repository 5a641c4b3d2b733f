/** Promises 1 and 2: construction, the starting state, atoms. */
public final class ConstructionTest {
    private static final Due DUE = new Due("ConstructionTest");

    public static void main(String[] args) {
        for (int atoms : Calls.EDGES) {
            for (int relations : Calls.EDGES) {
                checkStart(atoms, relations);
            }
        }
        checkSizesNeverChange();
        checkObjectsAreApart();
        DUE.end();
    }

    private static int clamped(int value) {
        return Math.max(1, Math.min(4, value));
    }

    private static void checkStart(int atoms, int relations) {
        RelationFinder x = new RelationFinder(atoms, relations);
        int n = clamped(atoms);
        int r = clamped(relations);
        String made = "new(" + atoms + ", " + relations + ").";
        DUE.is(made + "atoms()", x.atoms(), n);
        DUE.is(made + "freeCount()", x.freeCount(), r * n);
        DUE.is(made + "tokenCount()", x.tokenCount(), 0);
        DUE.is(made + "token(0)", x.token(0), -1);
        DUE.is(made + "depth()", x.depth(), 0);
        DUE.is(made + "stackEntry(0)", x.stackEntry(0), -1);
        DUE.is(made + "status()", x.status(), RelationFinder.NOT_SOLVED);
        DUE.is(made + "solve()", x.solve(), RelationFinder.ERR_NOT_FORMULA);
        for (int rel = 0; rel < 5; rel++) {
            DUE.is(made + "arityOf(" + rel + ")", x.arityOf(rel), rel < r ? 1 : -1);
            DUE.is(made + "instanceSize(" + rel + ")", x.instanceSize(rel), -1);
            for (int a = 0; a < 5; a++) {
                DUE.is(made + "boundOf(" + rel + ", " + a + ", 0)", x.boundOf(rel, a, 0), rel < r && a < n ? 0 : -1);
                DUE.is(made + "has(" + rel + ", " + a + ", 0)", x.has(rel, a, 0), -1);
            }
        }
    }

    private static void checkSizesNeverChange() {
        RelationFinder x = new RelationFinder(3, 2);
        x.declare(0, 2);
        x.bound(1, 2, 0, RelationFinder.REQUIRE);
        Calls.feed(x, RelationFinder.K_REL, 1, RelationFinder.K_ONE, 0);
        x.bound(0, 0, 0, RelationFinder.EXCLUDE);
        DUE.is("solve()", x.solve(), RelationFinder.SAT);
        DUE.is("atoms() after a solve", x.atoms(), 3);
        x.clearFormula();
        DUE.is("atoms() after clearFormula", x.atoms(), 3);
        DUE.is("arityOf(1) after clearFormula", x.arityOf(1), 1);
        DUE.is("arityOf(2) after clearFormula", x.arityOf(2), -1);
        DUE.is("boundOf(1, 3, 0)", x.boundOf(1, 3, 0), -1);
    }

    private static void checkObjectsAreApart() {
        RelationFinder x = new RelationFinder(2, 2);
        String before = Calls.picture(x);
        RelationFinder other = new RelationFinder(4, 4);
        other.declare(1, 2);
        other.bound(0, 1, 0, RelationFinder.REQUIRE);
        Calls.feed(other, RelationFinder.K_UNIV, 0);
        DUE.is("another object's calls", Calls.picture(x), before);
    }
}
