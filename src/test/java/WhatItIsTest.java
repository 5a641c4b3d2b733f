/** 'What it is', sentence by sentence. */
public final class WhatItIsTest {
    private static final Due DUE = new Due("WhatItIsTest");

    public static void main(String[] args) {
        DUE.check(WhatItIsTest::checkUniverse, WhatItIsTest::checkUnaryTuples, WhatItIsTest::checkBinaryTuples,
            WhatItIsTest::checkRespectsBounds, WhatItIsTest::checkLeftAndRight, WhatItIsTest::checkExaminedWhenFed,
            WhatItIsTest::checkVariableMask, WhatItIsTest::checkSolvingReports);
        DUE.end();
    }

    private static void checkUniverse() {
        DUE.sentence("The universe consists of atoms 0..N-1 and there are relations 0..R-1, each of arity 1 "
            + "(unary) or 2 (binary).");
        for (int n = 1; n <= 4; n++) {
            for (int r = 1; r <= 4; r++) {
                RelationFinder x = new RelationFinder(n, r);
                DUE.is("declare(R - 1, 2)", x.declare(r - 1, 2), 0);
                DUE.is("declare(R, 2)", x.declare(r, 2), RelationFinder.ERR_ARG);
                DUE.is("declare(0, 0)", x.declare(0, 0), RelationFinder.ERR_ARG);
                DUE.is("declare(0, 3)", x.declare(0, 3), RelationFinder.ERR_ARG);
                DUE.is("boundOf(R - 1, N - 1, N - 1)", x.boundOf(r - 1, n - 1, n - 1), 0);
                DUE.is("boundOf(R - 1, N, 0)", x.boundOf(r - 1, n, 0), -1);
            }
        }
    }

    /** Which numbers from -1 to 5, as a and as b, make a tuple of relation 0. */
    private static String tuples(int n, int arity) {
        RelationFinder x = new RelationFinder(n, 1);
        x.declare(0, arity);
        String told = "";
        for (int a = -1; a <= 5; a++) {
            for (int b = -1; b <= 5; b++) {
                told += x.boundOf(0, a, b) == -1 ? "" : " " + a + b;
            }
        }
        return told.trim();
    }

    private static void checkUnaryTuples() {
        DUE.sentence("A tuple of a unary relation is an atom a with 0 <= a < N; in calls it is written as the pair "
            + "(a, 0).");
        String[] want = {"00", "00 10", "00 10 20", "00 10 20 30"};
        for (int n = 1; n <= 4; n++) {
            DUE.is("the unary tuples over " + n, tuples(n, 1), want[n - 1]);
        }
    }

    private static void checkBinaryTuples() {
        DUE.sentence("A tuple of a binary relation is a pair (a, b) with 0 <= a < N and 0 <= b < N.");
        String[] want = {"00", "00 01 10 11", "00 01 02 10 11 12 20 21 22",
            "00 01 02 03 10 11 12 13 20 21 22 23 30 31 32 33"};
        for (int n = 1; n <= 4; n++) {
            DUE.is("the binary tuples over " + n, tuples(n, 2), want[n - 1]);
        }
    }

    /** Tuple by tuple: a formula wants it held, and a formula wants it not held. */
    private static void checkRespectsBounds() {
        DUE.sentence("it RESPECTS THE BOUNDS if it holds every REQUIRE tuple and no EXCLUDE tuple (FREE tuples may "
            + "be held or not)");
        for (int a = 0; a < 4; a++) {
            for (int b = 0; b < 4; b++) {
                RelationFinder x = Words.world(4, "2:", "1: " + a, "1: " + b);
                for (int mode = 0; mode <= 2; mode++) {
                    x.bound(0, a, b, mode);
                    DUE.is("solve() for it held, mode " + mode, Words.solve(x, "r1 r2 product r0 in"),
                        mode == RelationFinder.EXCLUDE ? RelationFinder.UNSAT : RelationFinder.SAT);
                    DUE.is("solve() for it not held, mode " + mode, Words.solve(x, "r1 r2 product r0 in not"),
                        mode == RelationFinder.REQUIRE ? RelationFinder.UNSAT : RelationFinder.SAT);
                }
            }
        }
    }

    private static void checkLeftAndRight() {
        DUE.sentence("An operator pops its operands (the top entry is the RIGHT/last operand, the one below it the "
            + "LEFT) and pushes its result.");
        RelationFinder x = Words.world(3, "1: 0 1", "1: 1", "2: 01", "2: 12");
        DUE.is("r0 minus r1 is 0", Words.solve(x, "r0 r1 diff some"), RelationFinder.SAT);
        DUE.is("r1 minus r0 is empty", Words.solve(x, "r1 r0 diff some"), RelationFinder.UNSAT);
        DUE.is("r1 in r0", Words.solve(x, "r1 r0 in"), RelationFinder.SAT);
        DUE.is("r0 in r1", Words.solve(x, "r0 r1 in"), RelationFinder.UNSAT);
        DUE.is("r2 . r3 is (0, 2)", Words.solve(x, "r2 r3 join one"), RelationFinder.SAT);
        DUE.is("r3 . r2 is empty", Words.solve(x, "r3 r2 join one"), RelationFinder.UNSAT);
        DUE.is("r1 . r3 is 2", Words.solve(x, "r1 r3 join one"), RelationFinder.SAT);
        DUE.is("r3 . r1 is empty", Words.solve(x, "r3 r1 join one"), RelationFinder.UNSAT);
        DUE.is("r1 -> r0 holds (1, 0)", Words.solve(x, "r1 r0 product r1 join r1 eq"), RelationFinder.SAT);
        DUE.is("r0 -> r1 holds (0, 1)", Words.solve(x, "r0 r1 product r1 join r0 eq"), RelationFinder.SAT);
        DUE.is("false implies true", Words.solve(x, "univ no univ some implies"), RelationFinder.SAT);
        DUE.is("true implies false", Words.solve(x, "univ some univ no implies"), RelationFinder.UNSAT);
    }

    private static void checkExaminedWhenFed() {
        DUE.sentence("Each token's operands are examined the moment it is fed.");
        RelationFinder x = new RelationFinder(2, 2);
        Words.feed(x, "r0 r1");
        DUE.is("a join of two unary relations", x.add(RelationFinder.K_JOIN, 0), RelationFinder.ERR_TYPE);
        DUE.is("a declare that would mend it", x.declare(1, 2), RelationFinder.ERR_BUSY);
        DUE.is("tokenCount()", x.tokenCount(), 2);
        DUE.is("a union of them", x.add(RelationFinder.K_UNION, 0), 1);
    }

    private static void checkVariableMask() {
        DUE.sentence("carries a VARIABLE MASK (bit v set when variable v occurs free in it)");
        RelationFinder x = new RelationFinder(2, 1);
        Words.feed(x, "v0 some all0 v0 v2 union some v2 some exists2");
        DUE.is("all 0: some 0", x.stackEntry(0), 0);
        DUE.is("some (0 + 2)", x.stackEntry(1), 4 * 5);
        DUE.is("exists 2: some 2", x.stackEntry(2), 0);
        Words.feed(x, "and or");
        DUE.is("free in one part, bound in another", x.stackEntry(0), 4 * 5);
        Words.feed(x, "all0 exists2");
        DUE.is("none free", x.stackEntry(0), 0);
        RelationFinder y = new RelationFinder(2, 1);
        Words.feed(y, "v0 v1 union v2 union some all0");
        DUE.is("1 and 2 free", y.stackEntry(0), 4 * 6);
        Words.feed(y, "exists1");
        DUE.is("2 free", y.stackEntry(0), 4 * 4);
    }

    private static void checkSolvingReports() {
        DUE.sentence("reports either that none makes the formula true or the unique least one in a fixed order; that "
            + "assignment can then be read back tuple by tuple");
        RelationFinder x = new RelationFinder(3, 2);
        x.declare(1, 2);
        DUE.is("solve()", Words.solve(x, "r0 one r0 r1 join univ eq and r1 r0 join r0 eq and"), RelationFinder.SAT);
        DUE.is("r0", Calls.tuples(x, 0), "2");
        DUE.is("r1", Calls.tuples(x, 1), "20 21 22");
        DUE.is("solve()", Words.solve(x, "r0 one r0 r1 join univ eq and r1 one and"), RelationFinder.UNSAT);
        DUE.is("r0", Calls.tuples(x, 0), "");
    }
}
