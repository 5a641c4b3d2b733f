/** Promise 7, sentence by sentence: freeCount. */
public final class Promise07Test {
    private static final Due DUE = new Due("Promise07Test");

    public static void main(String[] args) {
        DUE.check(Promise07Test::checkAllFree, Promise07Test::checkNoneFree, Promise07Test::checkOnlyFreeIsCounted,
            Promise07Test::checkOnlyOwnRelations, Promise07Test::checkChangesNothing);
        DUE.end();
    }

    /** Relation rel is binary where bit rel of binaries is set. */
    private static RelationFinder made(int n, int r, int binaries) {
        RelationFinder x = new RelationFinder(n, r);
        for (int rel = 0; rel < r; rel++) {
            x.declare(rel, 1 + (binaries >> rel & 1));
        }
        return x;
    }

    private static void checkAllFree() {
        DUE.sentence("where a unary relation has N tuples and a binary relation has N*N tuples");
        for (int n = 1; n <= 4; n++) {
            for (int r = 1; r <= 4; r++) {
                for (int binaries = 0; binaries < 1 << r; binaries++) {
                    int twos = Integer.bitCount(binaries);
                    DUE.is("freeCount() of " + n + ", " + r + ", binaries " + binaries,
                        made(n, r, binaries).freeCount(), (r - twos) * n + twos * n * n);
                }
            }
        }
    }

    private static void checkNoneFree() {
        DUE.sentence("`freeCount()` answers the number of FREE tuples over all relations 0..R-1 (none)");
        for (int n = 1; n <= 4; n++) {
            for (int mode = 1; mode <= 2; mode++) {
                RelationFinder x = made(n, 4, 10);
                for (int rel = 0; rel < 4; rel++) {
                    Words.boundAll(x, rel, mode);
                }
                DUE.is("freeCount() when all are " + mode, x.freeCount(), 0);
            }
        }
    }

    private static void checkOnlyFreeIsCounted() {
        DUE.sentence("`freeCount()` answers the number of FREE tuples over all relations 0..R-1 (some)");
        for (int rel = 0; rel < 4; rel++) {
            for (int a = 0; a < 4; a++) {
                for (int b = 0; b < (rel % 2 == 0 ? 1 : 4); b++) {
                    RelationFinder x = made(4, 4, 10);
                    x.bound(rel, a, b, RelationFinder.REQUIRE);
                    DUE.is("freeCount() with one REQUIRE", x.freeCount(), 39);
                    x.bound(rel, a, b, RelationFinder.EXCLUDE);
                    DUE.is("freeCount() with one EXCLUDE", x.freeCount(), 39);
                    x.bound(rel, a, b, RelationFinder.FREE);
                    DUE.is("freeCount() with all FREE again", x.freeCount(), 40);
                }
            }
        }
    }

    private static void checkOnlyOwnRelations() {
        DUE.sentence("`freeCount()` answers the number of FREE tuples over all relations 0..R-1 (no others)");
        for (int r = 1; r <= 3; r++) {
            RelationFinder x = new RelationFinder(2, r);
            x.declare(r, 2);
            x.bound(r, 0, 0, RelationFinder.REQUIRE);
            DUE.is("freeCount() of " + r + " relations", x.freeCount(), 2 * r);
        }
    }

    private static void checkChangesNothing() {
        DUE.sentence("It changes nothing. (freeCount)");
        Trace.none(DUE, "freeCount()", RelationFinder::freeCount);
    }
}
