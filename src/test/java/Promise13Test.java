/** Promise 13, sentence by sentence: status. */
public final class Promise13Test {
    private static final Due DUE = new Due("Promise13Test");

    public static void main(String[] args) {
        DUE.check(Promise13Test::checkRules, Promise13Test::checkChangesNothing);
        DUE.end();
    }

    private static void is(RelationFinder x, String after, int want) {
        DUE.is("status() after " + after, x.status(), want);
    }

    private static void checkRules() {
        DUE.sentence("`status()` answers NOT_SOLVED, SAT or UNSAT as set by the rules above.");
        RelationFinder x = new RelationFinder(2, 1);
        is(x, "the start", RelationFinder.NOT_SOLVED);
        x.solve();
        is(x, "a refused solve", RelationFinder.NOT_SOLVED);
        x.declare(0, 1);
        is(x, "declare", RelationFinder.NOT_SOLVED);
        Words.feed(x, "r0 some");
        is(x, "add", RelationFinder.NOT_SOLVED);
        x.solve();
        is(x, "a solve with a model", RelationFinder.SAT);
        x.add(RelationFinder.K_SOME, 0);
        is(x, "a refused add", RelationFinder.SAT);
        x.bound(0, 0, 0, RelationFinder.EXCLUDE);
        is(x, "bound", RelationFinder.NOT_SOLVED);
        x.bound(0, 1, 0, RelationFinder.EXCLUDE);
        x.solve();
        is(x, "a solve without a model", RelationFinder.UNSAT);
        x.bound(0, 2, 0, RelationFinder.FREE);
        is(x, "a refused bound", RelationFinder.UNSAT);
        x.declare(0, 2);
        is(x, "a refused declare", RelationFinder.UNSAT);
        Words.feed(x, "not");
        is(x, "add", RelationFinder.NOT_SOLVED);
        x.solve();
        is(x, "a solve with a model", RelationFinder.SAT);
        x.clearFormula();
        is(x, "clearFormula", RelationFinder.NOT_SOLVED);
    }

    private static void checkChangesNothing() {
        DUE.sentence("It changes nothing. (status)");
        Trace.none(DUE, "status()", RelationFinder::status);
    }
}
