/** Promise 1, sentence by sentence: construction and the starting state. */
public final class Promise01Test {
    private static final Due DUE = new Due("Promise01Test");

    public static void main(String[] args) {
        DUE.check(Promise01Test::checkAnyValues, Promise01Test::checkAtomsTooSmall, Promise01Test::checkAtomsTooLarge,
            Promise01Test::checkAtomsWithin, Promise01Test::checkRelationsTooSmall,
            Promise01Test::checkRelationsTooLarge, Promise01Test::checkRelationsWithin,
            Promise01Test::checkSizesNeverChange, Promise01Test::checkStartOfRelations,
            Promise01Test::checkStartOfFormula, Promise01Test::checkStartOfResult);
        DUE.end();
    }

    private static int[] tooSmall() {
        return Numbers.outside(1, Integer.MAX_VALUE);
    }

    private static int[] tooLarge() {
        return Numbers.outside(Integer.MIN_VALUE, 4);
    }

    /** R as the calls show it. */
    private static int relationsOf(RelationFinder x) {
        int count = 0;
        for (int rel = 0; rel < 10; rel++) {
            count += x.arityOf(rel) == -1 ? 0 : 1;
        }
        return count;
    }

    /** N as the tuples show it. */
    private static int atomsOf(RelationFinder x) {
        int count = 0;
        for (int a = 0; a < 10; a++) {
            count += x.boundOf(0, a, 0) == -1 ? 0 : 1;
        }
        return count;
    }

    private static void checkAnyValues() {
        DUE.sentence("`RelationFinder(int atoms, int relations)` accepts any int values.");
        for (int atoms : Numbers.ALL) {
            for (int relations : Numbers.ALL) {
                RelationFinder x = new RelationFinder(atoms, relations);
                String made = "new(" + atoms + ", " + relations + ")";
                DUE.is("N of " + made, x.atoms(), Math.max(1, Math.min(4, atoms)));
                DUE.is("R of " + made, relationsOf(x), Math.max(1, Math.min(4, relations)));
            }
        }
    }

    private static void checkAtomsTooSmall() {
        DUE.sentence("any value below 1 (including Integer.MIN_VALUE) becomes 1");
        for (int atoms : tooSmall()) {
            RelationFinder x = new RelationFinder(atoms, 2);
            DUE.is("atoms() of new(" + atoms + ", 2)", x.atoms(), 1);
            DUE.is("atoms with tuples in new(" + atoms + ", 2)", atomsOf(x), 1);
        }
    }

    private static void checkAtomsTooLarge() {
        DUE.sentence("any value above 4 (including Integer.MAX_VALUE) becomes 4");
        for (int atoms : tooLarge()) {
            RelationFinder x = new RelationFinder(atoms, 2);
            DUE.is("atoms() of new(" + atoms + ", 2)", x.atoms(), 4);
            DUE.is("atoms with tuples in new(" + atoms + ", 2)", atomsOf(x), 4);
        }
    }

    private static void checkAtomsWithin() {
        DUE.sentence("N is atoms clamped into 1..MAX_ATOMS");
        for (int atoms = 1; atoms <= RelationFinder.MAX_ATOMS; atoms++) {
            RelationFinder x = new RelationFinder(atoms, 2);
            DUE.is("atoms() of new(" + atoms + ", 2)", x.atoms(), atoms);
            DUE.is("atoms with tuples in new(" + atoms + ", 2)", atomsOf(x), atoms);
        }
    }

    private static void checkRelationsTooSmall() {
        DUE.sentence("R is relations clamped into 1..MAX_RELATIONS the same way. (below 1)");
        for (int relations : tooSmall()) {
            DUE.is("R of new(2, " + relations + ")", relationsOf(new RelationFinder(2, relations)), 1);
        }
    }

    private static void checkRelationsTooLarge() {
        DUE.sentence("R is relations clamped into 1..MAX_RELATIONS the same way. (above 4)");
        for (int relations : tooLarge()) {
            DUE.is("R of new(2, " + relations + ")", relationsOf(new RelationFinder(2, relations)), 4);
        }
    }

    private static void checkRelationsWithin() {
        DUE.sentence("R is relations clamped into 1..MAX_RELATIONS the same way. (within)");
        for (int relations = 1; relations <= RelationFinder.MAX_RELATIONS; relations++) {
            DUE.is("R of new(2, " + relations + ")", relationsOf(new RelationFinder(2, relations)), relations);
        }
    }

    private static void checkSizesNeverChange() {
        DUE.sentence("N and R never change afterwards.");
        for (int n = 1; n <= 4; n++) {
            for (int r = 1; r <= 4; r++) {
                RelationFinder x = new RelationFinder(n, r);
                x.declare(0, 2);
                checkSizes(x, n, r, "declare");
                x.declare(r, 2);
                x.bound(0, n, n, 0);
                checkSizes(x, n, r, "refused calls");
                Words.boundAll(x, 0, RelationFinder.EXCLUDE);
                checkSizes(x, n, r, "bound");
                Words.feed(x, "v0 r0 join v0 eq all0");
                checkSizes(x, n, r, "add");
                int answer = x.solve();
                DUE.is("solve()", answer, x.freeCount() > 12 ? RelationFinder.ERR_TOO_BIG : RelationFinder.UNSAT);
                checkSizes(x, n, r, "solve");
                x.clearFormula();
                checkSizes(x, n, r, "clearFormula");
            }
        }
    }

    private static void checkSizes(RelationFinder x, int n, int r, String after) {
        DUE.is("atoms() after " + after, x.atoms(), n);
        DUE.is("atoms with tuples after " + after, atomsOf(x), n);
        DUE.is("R after " + after, relationsOf(x), r);
    }

    private static void checkStartOfRelations() {
        DUE.sentence("At the start: every relation has arity 1, every tuple is FREE (so freeCount() is R*N)");
        for (int n = 1; n <= 4; n++) {
            for (int r = 1; r <= 4; r++) {
                RelationFinder x = new RelationFinder(n, r);
                DUE.is("freeCount() of new(" + n + ", " + r + ")", x.freeCount(), r * n);
                for (int rel = 0; rel < r; rel++) {
                    DUE.is("arityOf(" + rel + ")", x.arityOf(rel), 1);
                    for (int a = 0; a < n; a++) {
                        DUE.is("boundOf(" + rel + ", " + a + ", 0)", x.boundOf(rel, a, 0), RelationFinder.FREE);
                    }
                }
            }
        }
    }

    private static void checkStartOfFormula() {
        DUE.sentence("there are no tokens, the stack is empty");
        RelationFinder x = new RelationFinder(4, 4);
        DUE.is("tokenCount()", x.tokenCount(), 0);
        DUE.is("token(0)", x.token(0), -1);
        DUE.is("depth()", x.depth(), 0);
        DUE.is("stackEntry(0)", x.stackEntry(0), -1);
        DUE.is("add(K_NOT, 0)", x.add(RelationFinder.K_NOT, 0), RelationFinder.ERR_STACK);
        DUE.is("declare(0, 1), not busy", x.declare(0, 1), 0);
        DUE.is("solve()", new RelationFinder(1, 1).solve(), RelationFinder.ERR_NOT_FORMULA);
        DUE.is("add(K_UNIV, 0)", new RelationFinder(1, 1).add(RelationFinder.K_UNIV, 0), 1);
    }

    private static void checkStartOfResult() {
        DUE.sentence("status() is NOT_SOLVED with no instance");
        for (int n = 1; n <= 4; n++) {
            for (int r = 1; r <= 4; r++) {
                RelationFinder x = new RelationFinder(n, r);
                DUE.is("status() of new(" + n + ", " + r + ")", x.status(), RelationFinder.NOT_SOLVED);
                for (int rel = 0; rel < r; rel++) {
                    DUE.is("instanceSize(" + rel + ")", x.instanceSize(rel), -1);
                    for (int a = 0; a < n; a++) {
                        DUE.is("has(" + rel + ", " + a + ", 0)", x.has(rel, a, 0), -1);
                    }
                }
            }
        }
    }
}
