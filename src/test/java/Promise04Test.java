/** Promise 4, sentence by sentence: arityOf. */
public final class Promise04Test {
    private static final Due DUE = new Due("Promise04Test");

    public static void main(String[] args) {
        DUE.check(Promise04Test::checkArity, Promise04Test::checkOutOfRange, Promise04Test::checkChangesNothing);
        DUE.end();
    }

    private static void checkArity() {
        DUE.sentence("`arityOf(rel)` answers the arity (1 or 2) of rel");
        for (int r = 1; r <= 4; r++) {
            for (int binary = 0; binary < r; binary++) {
                RelationFinder x = new RelationFinder(2, r);
                x.declare(binary, 2);
                for (int rel = 0; rel < r; rel++) {
                    DUE.is("arityOf(" + rel + ")", x.arityOf(rel), rel == binary ? 2 : 1);
                }
            }
        }
    }

    private static void checkOutOfRange() {
        DUE.sentence("or -1 if rel < 0 or rel >= R (arityOf)");
        for (int r = 1; r <= 4; r++) {
            RelationFinder x = new RelationFinder(2, r);
            for (int rel : Numbers.outside(0, r - 1)) {
                DUE.is("arityOf(" + rel + ") with R = " + r, x.arityOf(rel), -1);
            }
        }
    }

    private static void checkChangesNothing() {
        DUE.sentence("It changes nothing. (arityOf)");
        for (int rel : Numbers.ALL) {
            Trace.none(DUE, "arityOf(" + rel + ")", x -> x.arityOf(rel));
        }
    }
}
