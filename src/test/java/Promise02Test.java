/** Promise 2, sentence by sentence: atoms. */
public final class Promise02Test {
    private static final Due DUE = new Due("Promise02Test");

    public static void main(String[] args) {
        DUE.check(Promise02Test::checkRange, Promise02Test::checkChangesNothing);
        DUE.end();
    }

    private static void checkRange() {
        DUE.sentence("`atoms()` answers N, always in 1..4.");
        for (int atoms : Numbers.ALL) {
            int want = atoms < 1 ? 1 : atoms > 4 ? 4 : atoms;
            DUE.is("atoms() of new(" + atoms + ", 1)", new RelationFinder(atoms, 1).atoms(), want);
        }
    }

    private static void checkChangesNothing() {
        DUE.sentence("It changes nothing. (atoms)");
        Trace.none(DUE, "atoms()", RelationFinder::atoms);
    }
}
