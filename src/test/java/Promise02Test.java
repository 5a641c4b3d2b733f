/** Promise 2, sentence by sentence: atoms. */
public final class Promise02Test {
    private static final Due DUE = new Due("Promise02Test");

    public static void main(String[] args) {
        checkRange();
        checkChangesNothing();
        DUE.end();
    }

    private static void checkRange() {
        DUE.sentence("`atoms()` answers N, always in 1..4.");
        for (int atoms : Numbers.ALL) {
            int want = atoms < 1 ? 1 : atoms > 4 ? 4 : atoms;
            DUE.is("atoms() of new(" + atoms + ", 1)", new RelationFinder(atoms, 1).atoms(), want);
        }
    }

    private static void checkChangesNothing() {
        DUE.sentence("It changes nothing. (atoms)");
        for (RelationFinder x : Stages.all()) {
            String before = Calls.picture(x);
            int first = x.atoms();
            for (int i = 0; i < 5; i++) {
                DUE.is("atoms() again", x.atoms(), first);
            }
            DUE.is("all getters after atoms()", Calls.picture(x), before);
        }
    }
}
