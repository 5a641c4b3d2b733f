/** 'Order of assignments', sentence by sentence. */
public final class OrderTest {
    private static final Due DUE = new Due("OrderTest");

    public static void main(String[] args) {
        DUE.check(OrderTest::checkRelationsInOrder, OrderTest::checkUnaryInOrder, OrderTest::checkBinaryInOrder,
            OrderTest::checkOnlyFreeTuplesArePositions, OrderTest::checkFirstDifferenceDecides,
            OrderTest::checkTwelvePositions);
        DUE.end();
    }

    private static String all(RelationFinder x, int relations) {
        String told = "";
        for (int rel = 0; rel < relations; rel++) {
            told += (rel == 0 ? "" : "/") + Calls.tuples(x, rel);
        }
        return told;
    }

    private static void checkRelationsInOrder() {
        DUE.sentence("POSITIONS list all FREE tuples: relation 0 first, then 1, and so on");
        for (int left = 0; left < 4; left++) {
            for (int right = left + 1; right < 4; right++) {
                for (int arities = 0; arities < 4; arities++) {
                    RelationFinder x = new RelationFinder(2, 4);
                    for (int rel = 0; rel < 4; rel++) {
                        x.declare(rel, rel == left ? 1 + arities % 2 : rel == right ? 1 + arities / 2 : 1);
                    }
                    // The earlier relation stays empty where one of the two must hold something.
                    Words.feed(x, "r" + left + " some r" + right + " some or");
                    DUE.is("solve()", x.solve(), RelationFinder.SAT);
                    DUE.is("the earlier one", Calls.tuples(x, left), "");
                    DUE.is("the later one", Calls.tuples(x, right), arities / 2 == 0 ? "1" : "11");
                }
            }
        }
    }

    private static void checkUnaryInOrder() {
        DUE.sentence("within a relation, unary tuples by a ascending");
        for (int n = 1; n <= 4; n++) {
            RelationFinder x = new RelationFinder(n, 1);
            Words.feed(x, "r0 some");
            for (int a = n - 1; a >= 0; a--) {
                DUE.is("solve()", x.solve(), RelationFinder.SAT);
                DUE.is("the last FREE tuple over " + n, Calls.tuples(x, 0), "" + a);
                x.bound(0, a, 0, RelationFinder.EXCLUDE);
            }
            DUE.is("solve() when none is left", x.solve(), RelationFinder.UNSAT);
        }
    }

    private static void checkBinaryInOrder() {
        DUE.sentence("binary tuples by a*N+b ascending");
        for (int n = 1; n <= 4; n++) {
            RelationFinder x = new RelationFinder(n, 1);
            x.declare(0, 2);
            Words.feed(x, "r0 some");
            for (int i = n * n - 1; i >= 0; i--) {
                if (x.freeCount() > RelationFinder.MAX_FREE) {
                    x.bound(0, i / n, i % n, RelationFinder.EXCLUDE);
                    continue;
                }
                DUE.is("solve()", x.solve(), RelationFinder.SAT);
                DUE.is("the last FREE tuple over " + n, Calls.tuples(x, 0), i / n + "" + i % n);
                x.bound(0, i / n, i % n, RelationFinder.EXCLUDE);
            }
            DUE.is("solve() when none is left", x.solve(), RelationFinder.UNSAT);
        }
        RelationFinder x = new RelationFinder(4, 1);
        x.declare(0, 2);
        Words.boundAll(x, 0, RelationFinder.EXCLUDE);
        x.bound(0, 2, 3, RelationFinder.FREE);
        x.bound(0, 3, 0, RelationFinder.FREE);
        DUE.is("solve()", Words.solve(x, "r0 one"), RelationFinder.SAT);
        DUE.is("(3, 0) comes after (2, 3)", Calls.tuples(x, 0), "30");
    }

    private static void checkOnlyFreeTuplesArePositions() {
        DUE.sentence("POSITIONS list all FREE tuples (REQUIRE and EXCLUDE tuples in between have none)");
        RelationFinder x = new RelationFinder(4, 2);
        x.bound(0, 1, 0, RelationFinder.REQUIRE);
        x.bound(0, 3, 0, RelationFinder.EXCLUDE);
        x.bound(1, 0, 0, RelationFinder.REQUIRE);
        x.bound(1, 2, 0, RelationFinder.EXCLUDE);
        DUE.is("solve()", Words.solve(x, "r0 one not r1 one not and"), RelationFinder.SAT);
        DUE.is("the least", all(x, 2), "1 2/0 3");
        x.bound(0, 2, 0, RelationFinder.EXCLUDE);
        x.bound(1, 3, 0, RelationFinder.REQUIRE);
        DUE.is("solve()", x.solve(), RelationFinder.SAT);
        DUE.is("the least", all(x, 2), "0 1/0 3");
    }

    private static void checkFirstDifferenceDecides() {
        DUE.sentence("Assignment X PRECEDES Y when, at the first position where they differ, X does NOT hold the "
            + "tuple.");
        RelationFinder x = new RelationFinder(4, 2);
        // Either r0 = {0} alone, or all but that: the greater set precedes, for position 0 is not held in it.
        x.bound(1, 0, 0, RelationFinder.REQUIRE);
        for (int a = 1; a < 4; a++) {
            x.bound(1, a, 0, RelationFinder.EXCLUDE);
        }
        DUE.is("solve()", Words.solve(x, "r0 r1 eq r0 univ r1 diff eq or"), RelationFinder.SAT);
        DUE.is("the least", Calls.tuples(x, 0), "1 2 3");
        // Either {0, 1} or {0, 2, 3}: they differ first at position 1.
        x.bound(1, 1, 0, RelationFinder.REQUIRE);
        x.bound(0, 0, 0, RelationFinder.REQUIRE);
        String either = "r0 r1 eq univ r1 diff r0 in r0 r1 inter one and or";
        DUE.is("solve()", Words.solve(x, either), RelationFinder.SAT);
        DUE.is("the least", Calls.tuples(x, 0), "0 2 3");
    }

    /** The least model must be found among all 4096: one that has a single tuple, two, eleven, twelve. */
    private static void checkTwelvePositions() {
        DUE.sentence("The REPORTED INSTANCE after a successful solve is the model that precedes every other model "
            + "(the LEAST model); it is unique.");
        RelationFinder x = new RelationFinder(4, 3);
        DUE.is("solve()", Words.solve(x, "r0 some"), RelationFinder.SAT);
        DUE.is("the least", all(x, 3), "3//");
        DUE.is("solve()", Words.solve(x, "r0 some r0 one not and"), RelationFinder.SAT);
        DUE.is("the least", all(x, 3), "2 3//");
        DUE.is("solve()", Words.solve(x, "r0 r1 union univ eq r1 r2 union univ eq and"), RelationFinder.SAT);
        DUE.is("the least", all(x, 3), "/0 1 2 3/");
        DUE.is("solve()", Words.solve(x, "r0 r1 eq r1 r2 eq not and r0 some and"), RelationFinder.SAT);
        DUE.is("the least", all(x, 3), "3/3/");
        x.bound(0, 0, 0, RelationFinder.EXCLUDE);
        DUE.is("solve()", Words.solve(x, "univ r0 diff one univ r1 in and univ r2 in and"), RelationFinder.SAT);
        DUE.is("the least", all(x, 3), "1 2 3/0 1 2 3/0 1 2 3");
    }
}
