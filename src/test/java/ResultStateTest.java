/** 'Result state', sentence by sentence. */
public final class ResultStateTest {
    private static final Due DUE = new Due("ResultStateTest");

    // Runs of calls that come by every state; "add" takes words, all other calls numbers.
    private static final String[] RUNS = {
        "declare 1 2;bound 0 0 0 1;bound 1 0 2 2;bound 1 2 1 1;add r0 one;add iden r1 inter some;add and;solve;solve;"
            + "bound 1 2 2 2;solve;add not;solve;clear;declare 0 2;bound 0 2 2 1;bound 0 1 1 2;add r0 closure iden in",
        "add v0 v1 v2 union union r0 in;solve;add all0 exists1 all2;solve;bound 0 0 0 2;solve;bound 0 0 0 1;solve;"
            + "clear;clear;add univ;add some;solve;add univ some implies;solve",
        "declare 0 2;declare 1 2;add r0 r1 join;solve;add some;solve;bound 0 0 0 1;bound 0 0 1 1;bound 0 0 2 1;"
            + "bound 0 1 0 2;bound 0 1 1 2;bound 0 1 2 2;solve;bound 1 2 2 1;solve;bound 0 2 2 1;solve;clear;"
            + "declare 0 1",
        "add univ some not not not not not not not not not not not not not not not not not not not not not not not not;"
            + "add not not not not not not;solve;bound 1 0 0 1;solve;clear;add univ univ univ univ univ univ univ univ;"
            + "add iden iden iden iden iden iden iden iden v2 v2 v2 v2 v2 v2 v2 v2 r0 r1 r0 r1 r0 r1 r0 r1;solve;clear;"
            + "add r0 no;solve;bound 0 1 0 1;solve"
    };

    // Formulas of every kind, in which no token may be another one.
    private static final String[] FORMULAS = {
        "r0 one not r0 some and", "r0 r1 join r0 eq r0 some and", "r1 closure iden inter no r1 some and",
        "v0 r1 join some all0", "v0 v1 product r1 in v1 r0 in and exists1 all0", "r1 r1 transpose diff one",
        "r1 iden diff some r0 univ eq and", "r0 some r0 no and", "r1 one r1 r0 join no not and",
        "r0 univ inter r1 r0 join union one r0 no implies not", "v2 r1 join v1 eq exists1 r1 r1 join r1 eq or all2",
        "r0 r0 product r1 in r0 one not or not"
    };

    public static void main(String[] args) {
        DUE.check(ResultStateTest::checkStatusValues, ResultStateTest::checkAcceptedCallsForget,
            ResultStateTest::checkEvenIfNothingElseChanged, ResultStateTest::checkRefusedCallsChangeNothing,
            ResultStateTest::checkRefusedCallsLeaveNoTrace, ResultStateTest::checkRefusedCallsWithinFormulas,
            ResultStateTest::checkGettersChangeNothing);
        DUE.end();
    }

    private static void checkStatusValues() {
        DUE.sentence("status() is NOT_SOLVED, SAT or UNSAT.");
        DUE.is("status() at first", Stages.bounded().status(), RelationFinder.NOT_SOLVED);
        DUE.is("status() of a model found", Stages.sat().status(), RelationFinder.SAT);
        DUE.is("status() of no model", Stages.unsat().status(), RelationFinder.UNSAT);
    }

    private static void forgotten(RelationFinder x, String after) {
        DUE.is("status() after " + after, x.status(), RelationFinder.NOT_SOLVED);
        for (int rel = -1; rel <= 2; rel++) {
            DUE.is("instanceSize(" + rel + ") after " + after, x.instanceSize(rel), -1);
            for (int a = 0; a < 3; a++) {
                for (int b = 0; b < 3; b++) {
                    DUE.is("has after " + after, x.has(rel, a, b), -1);
                }
            }
        }
    }

    private static RelationFinder[] solved() {
        RelationFinder[] solved = {Stages.sat(), Stages.unsat()};
        DUE.is("statuses", solved[0].status() * 10 + solved[1].status(), 12);
        return solved;
    }

    /** declare is accepted without tokens alone, where the status is NOT_SOLVED already. */
    private static void checkAcceptedCallsForget() {
        DUE.sentence("Every ACCEPTED call of declare, bound, add or clearFormula sets it to NOT_SOLVED and forgets "
            + "the instance");
        for (int i = 0; i < 2; i++) {
            RelationFinder bounded = solved()[i];
            bounded.bound(0, 1, 0, RelationFinder.REQUIRE);
            forgotten(bounded, "bound");
            RelationFinder fed = solved()[i];
            Words.feed(fed, "not");
            forgotten(fed, "add");
            RelationFinder cleared = solved()[i];
            cleared.clearFormula();
            forgotten(cleared, "clearFormula");
            cleared.declare(0, 2);
            forgotten(cleared, "declare");
        }
    }

    private static void checkEvenIfNothingElseChanged() {
        DUE.sentence("even if nothing else changed");
        for (int rel = 0; rel < 2; rel++) {
            for (int a = 0; a < 3; a++) {
                for (int b = 0; b < (rel == 0 ? 1 : 3); b++) {
                    for (RelationFinder x : solved()) {
                        x.bound(rel, a, b, x.boundOf(rel, a, b));
                        forgotten(x, "bound to the mode that it has");
                    }
                }
            }
        }
        RelationFinder x = Stages.bounded();
        x.clearFormula();
        forgotten(x, "clearFormula without tokens");
        x.declare(0, x.arityOf(0));
        forgotten(x, "declare of the arity that it has");
    }

    private static void checkRefusedCallsChangeNothing() {
        DUE.sentence("A REFUSED call changes nothing at all.");
        for (RelationFinder x : Stages.all()) {
            Refusals.makeAll(DUE, x, relationsOf(x));
        }
    }

    private static int relationsOf(RelationFinder x) {
        int count = 0;
        while (x.arityOf(count) != -1) {
            count++;
        }
        return count;
    }

    /** What no getter shows at once may show later: a twin is spared the refused calls, and the two stay alike. */
    private static void checkRefusedCallsLeaveNoTrace() {
        DUE.sentence("A REFUSED call changes nothing at all. (as if it had not been made)");
        for (String run : RUNS) {
            RelationFinder x = new RelationFinder(3, 2);
            RelationFinder twin = new RelationFinder(3, 2);
            for (String call : run.split(";")) {
                Refusals.makeAll(DUE, x, 2);
                DUE.is(call, call(x, call), call(twin, call));
                DUE.is("all getters after " + call, Calls.picture(x), Calls.picture(twin));
            }
            Refusals.makeAll(DUE, x, 2);
            DUE.is("solve() at last", x.solve(), twin.solve());
            DUE.is("all getters at last", Calls.picture(x), Calls.picture(twin));
        }
    }

    private static void checkRefusedCallsWithinFormulas() {
        DUE.sentence("A REFUSED call changes nothing at all. (between the tokens of a formula)");
        for (String formula : FORMULAS) {
            RelationFinder x = new RelationFinder(2, 2);
            RelationFinder twin = new RelationFinder(2, 2);
            DUE.is("declare", x.declare(1, 2), twin.declare(1, 2));
            for (String word : formula.split(" ")) {
                Refusals.makeAll(DUE, x, 2);
                DUE.is(word, Words.feed(x, word), Words.feed(twin, word));
            }
            Refusals.makeAll(DUE, x, 2);
            DUE.is("solve() of " + formula, x.solve(), twin.solve());
            DUE.is("all getters after it", Calls.picture(x), Calls.picture(twin));
        }
    }

    private static int call(RelationFinder x, String call) {
        String[] words = call.split(" ");
        switch (words[0]) {
            case "declare":
                return x.declare(number(words[1]), number(words[2]));
            case "bound":
                return x.bound(number(words[1]), number(words[2]), number(words[3]), number(words[4]));
            case "add":
                return Words.feed(x, call.substring(4));
            case "solve":
                return x.solve();
            default:
                x.clearFormula();
                return 0;
        }
    }

    private static int number(String word) {
        return Integer.parseInt(word);
    }

    private static void checkGettersChangeNothing() {
        DUE.sentence("Getters change nothing.");
        Trace.none(DUE, "all getters", ResultStateTest::askAll);
    }

    private static void askAll(RelationFinder x) {
        for (int number : Numbers.ALL) {
            x.atoms();
            x.arityOf(number);
            x.freeCount();
            x.tokenCount();
            x.token(number);
            x.depth();
            x.stackEntry(number);
            x.status();
            x.instanceSize(number);
            for (int other : Numbers.ALL) {
                x.boundOf(0, number, other);
                x.boundOf(1, number, other);
                x.boundOf(number, other, 0);
                x.has(0, number, other);
                x.has(1, number, other);
                x.has(number, other, 0);
            }
        }
    }
}
