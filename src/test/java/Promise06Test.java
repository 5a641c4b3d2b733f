/** Promise 6, sentence by sentence: boundOf. */
public final class Promise06Test {
    private static final Due DUE = new Due("Promise06Test");

    public static void main(String[] args) {
        DUE.check(Promise06Test::checkMode, Promise06Test::checkWrongRelation, Promise06Test::checkWrongFirstAtom,
            Promise06Test::checkWrongSecondOfUnary, Promise06Test::checkWrongSecondOfBinary,
            Promise06Test::checkChangesNothing);
        DUE.end();
    }

    /** Relation 0 is unary, relation 1 binary, and no tuple is FREE: an answer of 0 would be wrong everywhere. */
    private static RelationFinder fixed(int n) {
        RelationFinder x = new RelationFinder(n, 2);
        x.declare(1, 2);
        Words.boundAll(x, 0, RelationFinder.REQUIRE);
        Words.boundAll(x, 1, RelationFinder.EXCLUDE);
        return x;
    }

    private static void none(RelationFinder x, int rel, int a, int b) {
        DUE.is("boundOf(" + rel + ", " + a + ", " + b + ") with N = " + x.atoms(), x.boundOf(rel, a, b), -1);
    }

    private static void checkMode() {
        DUE.sentence("`boundOf(rel, a, b)` answers the bound mode (FREE, REQUIRE or EXCLUDE) of tuple (a, b) of "
            + "rel.");
        for (int n = 1; n <= 4; n++) {
            for (int mode = 0; mode <= 2; mode++) {
                RelationFinder x = fixed(n);
                x.bound(0, n - 1, 0, mode);
                x.bound(1, 0, n - 1, mode);
                DUE.is("boundOf(0, N - 1, 0)", x.boundOf(0, n - 1, 0), mode);
                DUE.is("boundOf(1, 0, N - 1)", x.boundOf(1, 0, n - 1), mode);
                if (n > 1) {
                    DUE.is("boundOf(0, 0, 0)", x.boundOf(0, 0, 0), RelationFinder.REQUIRE);
                    DUE.is("boundOf(1, N - 1, 0)", x.boundOf(1, n - 1, 0), RelationFinder.EXCLUDE);
                }
            }
        }
    }

    private static void checkWrongRelation() {
        DUE.sentence("It answers -1 when any of the argument conditions 1 to 4 of bound() holds (rel out of range");
        for (int n = 1; n <= 4; n++) {
            for (int rel : Numbers.outside(0, 1)) {
                none(fixed(n), rel, 0, 0);
                none(fixed(n), rel, n - 1, 0);
            }
        }
    }

    private static void checkWrongFirstAtom() {
        DUE.sentence("It answers -1 when [..] a out of range");
        for (int n = 1; n <= 4; n++) {
            RelationFinder x = fixed(n);
            for (int a : Numbers.outside(0, n - 1)) {
                none(x, 0, a, 0);
                for (int b = 0; b < n; b++) {
                    none(x, 1, a, b);
                }
            }
        }
    }

    private static void checkWrongSecondOfUnary() {
        DUE.sentence("It answers -1 when [..] b != 0 for a unary relation");
        for (int n = 1; n <= 4; n++) {
            RelationFinder x = fixed(n);
            for (int b : Numbers.outside(0, 0)) {
                for (int a = 0; a < n; a++) {
                    none(x, 0, a, b);
                }
            }
        }
    }

    private static void checkWrongSecondOfBinary() {
        DUE.sentence("It answers -1 when [..] b out of range for a binary relation");
        for (int n = 1; n <= 4; n++) {
            RelationFinder x = fixed(n);
            for (int b : Numbers.outside(0, n - 1)) {
                for (int a = 0; a < n; a++) {
                    none(x, 1, a, b);
                }
            }
        }
    }

    private static void checkChangesNothing() {
        DUE.sentence("It changes nothing. (boundOf)");
        for (int number : Numbers.ALL) {
            Trace.none(DUE, "boundOf with " + number, x -> {
                for (int rel = -1; rel <= 4; rel++) {
                    x.boundOf(rel, number, 0);
                    x.boundOf(rel, 0, number);
                }
                x.boundOf(number, 0, 0);
            });
        }
    }
}
