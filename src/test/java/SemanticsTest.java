/** The table of tokens that promise 12 evaluates by, worked out by hand for each kind. */
public final class SemanticsTest {
    private static final Due DUE = new Due("SemanticsTest");

    public static void main(String[] args) {
        checkUnaryValues();
        checkBinaryValues();
        checkClosureOfFourAtoms();
        checkComparisons();
        checkCounts();
        checkConnectives();
        checkQuantifiers();
        checkInnerBindingWins();
        checkOrderOfQuantifiers();
        checkQuantifiersOverFourAtoms();
        checkThreeVariables();
        DUE.end();
    }

    /** r0 = {0, 1}, r1 = {1, 2}, r2 = {01, 12, 11}, over three atoms; the value is what a free r3 must equal. */
    private static String valueOf(int arity, int... expression) {
        RelationFinder x = new RelationFinder(3, 4);
        x.declare(2, 2);
        x.declare(3, arity);
        Calls.fix(x, 0, 0, 0, 1, 0);
        Calls.fix(x, 1, 1, 0, 2, 0);
        Calls.fix(x, 2, 0, 1, 1, 2, 1, 1);
        Calls.feed(x, 1, 3);
        Calls.feed(x, expression);
        Calls.feed(x, 13, 0);
        return x.solve() == RelationFinder.SAT ? Calls.tuples(x, 3) : "unsatisfiable";
    }

    private static void checkUnaryValues() {
        DUE.is("REL 0", valueOf(1, 1, 0), "0 1");
        DUE.is("UNIV", valueOf(1, 3, 0), "0 1 2");
        DUE.is("UNION", valueOf(1, 1, 0, 1, 1, 5, 0), "0 1 2");
        DUE.is("INTER", valueOf(1, 1, 0, 1, 1, 6, 0), "1");
        DUE.is("DIFF", valueOf(1, 1, 0, 1, 1, 7, 0), "0");
        DUE.is("DIFF the other way", valueOf(1, 1, 1, 1, 0, 7, 0), "2");
        DUE.is("JOIN unary binary", valueOf(1, 1, 0, 1, 2, 8, 0), "1 2");
        DUE.is("JOIN unary binary", valueOf(1, 1, 1, 1, 2, 8, 0), "1 2");
        DUE.is("JOIN unary binary", valueOf(1, 1, 1, 1, 0, 7, 0, 1, 2, 8, 0), "");
        DUE.is("JOIN binary unary", valueOf(1, 1, 2, 1, 0, 8, 0), "0 1");
        DUE.is("JOIN binary unary", valueOf(1, 1, 2, 1, 1, 1, 0, 7, 0, 8, 0), "1");
    }

    private static void checkBinaryValues() {
        DUE.is("REL 2", valueOf(2, 1, 2), "01 11 12");
        DUE.is("IDEN", valueOf(2, 4, 0), "00 11 22");
        DUE.is("UNION", valueOf(2, 1, 2, 4, 0, 5, 0), "00 01 11 12 22");
        DUE.is("INTER", valueOf(2, 1, 2, 4, 0, 6, 0), "11");
        DUE.is("DIFF", valueOf(2, 1, 2, 4, 0, 7, 0), "01 12");
        DUE.is("DIFF the other way", valueOf(2, 4, 0, 1, 2, 7, 0), "00 22");
        DUE.is("PRODUCT", valueOf(2, 1, 0, 1, 1, 9, 0), "01 02 11 12");
        DUE.is("PRODUCT the other way", valueOf(2, 1, 1, 1, 0, 9, 0), "10 11 20 21");
        DUE.is("TRANSPOSE", valueOf(2, 1, 2, 10, 0), "10 11 21");
        DUE.is("TRANSPOSE of a product", valueOf(2, 1, 1, 1, 0, 9, 0, 10, 0), "01 02 11 12");
        DUE.is("TRANSPOSE twice", valueOf(2, 1, 1, 3, 0, 9, 0, 10, 0, 10, 0), "10 11 12 20 21 22");
        DUE.is("JOIN binary binary", valueOf(2, 1, 2, 1, 2, 8, 0), "01 02 11 12");
        DUE.is("JOIN with the transpose", valueOf(2, 1, 2, 1, 2, 10, 0, 8, 0), "00 01 10 11");
        DUE.is("JOIN of the transpose", valueOf(2, 1, 2, 10, 0, 1, 2, 8, 0), "11 12 21 22");
        DUE.is("CLOSURE", valueOf(2, 1, 2, 11, 0), "01 02 11 12");
        DUE.is("CLOSURE of nothing", valueOf(2, 1, 2, 1, 2, 7, 0, 11, 0), "");
        DUE.is("CLOSURE of IDEN", valueOf(2, 4, 0, 11, 0), "00 11 22");
    }

    /** Sixteen free tuples would be too many for one solve, so each pair is asked for by itself. */
    private static String closureOf(int... pairs) {
        StringBuilder value = new StringBuilder();
        for (int a = 0; a < 4; a++) {
            for (int b = 0; b < 4; b++) {
                value.append(inClosure(a, b, pairs) ? a + "" + b + " " : "");
            }
        }
        return value.toString().trim();
    }

    private static boolean inClosure(int a, int b, int... pairs) {
        RelationFinder x = new RelationFinder(4, 3);
        x.declare(0, 2);
        Calls.fix(x, 0, pairs);
        Calls.fix(x, 1, a, 0);
        Calls.fix(x, 2, b, 0);
        // r1 -> r2 in closure of r0
        Calls.feed(x, 1, 1, 1, 2, 9, 0, 1, 0, 11, 0, 12, 0);
        return x.solve() == RelationFinder.SAT;
    }

    private static void checkClosureOfFourAtoms() {
        DUE.is("a path", closureOf(0, 1, 1, 2, 2, 3), "01 02 03 12 13 23");
        DUE.is("a path downwards", closureOf(3, 2, 2, 1, 1, 0), "10 20 21 30 31 32");
        DUE.is("a path of leaps", closureOf(2, 0, 0, 3, 3, 1), "01 03 20 21 23 31");
        DUE.is("a cycle of three", closureOf(1, 3, 3, 2, 2, 1), "11 12 13 21 22 23 31 32 33");
        DUE.is("a cycle of four", closureOf(0, 2, 2, 1, 1, 3, 3, 0),
            "00 01 02 03 10 11 12 13 20 21 22 23 30 31 32 33");
        DUE.is("a loop at one atom", closureOf(3, 3), "33");
        DUE.is("two pairs apart", closureOf(0, 1, 2, 3), "01 23");
    }

    private static boolean isTrue(int... formula) {
        RelationFinder x = new RelationFinder(3, 4);
        x.declare(2, 2);
        x.declare(3, 2);
        Calls.fix(x, 0, 0, 0, 1, 0);
        Calls.fix(x, 1, 1, 0);
        Calls.fix(x, 2, 0, 1, 1, 2);
        Calls.fix(x, 3, 0, 1, 1, 2, 2, 0);
        Calls.feed(x, formula);
        int answer = x.solve();
        DUE.is("solve() is SAT or UNSAT", answer == RelationFinder.SAT || answer == RelationFinder.UNSAT, true);
        return answer == RelationFinder.SAT;
    }

    private static void checkComparisons() {
        DUE.is("r1 in r0", isTrue(1, 1, 1, 0, 12, 0), true);
        DUE.is("r0 in r1", isTrue(1, 0, 1, 1, 12, 0), false);
        DUE.is("r0 in r0", isTrue(1, 0, 1, 0, 12, 0), true);
        DUE.is("r2 in r3", isTrue(1, 2, 1, 3, 12, 0), true);
        DUE.is("r3 in r2", isTrue(1, 3, 1, 2, 12, 0), false);
        DUE.is("r0 = r0", isTrue(1, 0, 1, 0, 13, 0), true);
        DUE.is("r0 = r1", isTrue(1, 0, 1, 1, 13, 0), false);
        DUE.is("r1 = r0", isTrue(1, 1, 1, 0, 13, 0), false);
        DUE.is("r2 = r3", isTrue(1, 2, 1, 3, 13, 0), false);
        DUE.is("r3 = r3", isTrue(1, 3, 1, 3, 13, 0), true);
    }

    private static void checkCounts() {
        // The expressions have 0, 1, 2, 3 tuples: first unary ones, then binary ones.
        int[][] expressions = {
            {1, 1, 1, 0, 7, 0}, {1, 1}, {1, 0}, {3, 0},
            {1, 2, 1, 3, 7, 0}, {1, 3, 1, 2, 7, 0}, {1, 2}, {1, 3}
        };
        for (int i = 0; i < expressions.length; i++) {
            int size = i % 4;
            DUE.is("SOME of " + size, isTrue(with(expressions[i], 14)), size >= 1);
            DUE.is("NO of " + size, isTrue(with(expressions[i], 15)), size == 0);
            DUE.is("ONE of " + size, isTrue(with(expressions[i], 16)), size == 1);
        }
    }

    private static int[] with(int[] tokens, int kind) {
        int[] longer = java.util.Arrays.copyOf(tokens, tokens.length + 2);
        longer[tokens.length] = kind;
        return longer;
    }

    private static void checkConnectives() {
        int[] kinds = {15, 14};
        for (int f = 0; f < 2; f++) {
            DUE.is("NOT " + f, isTrue(3, 0, kinds[f], 0, 17, 0), f == 0);
            for (int g = 0; g < 2; g++) {
                String fg = f + " " + g;
                DUE.is("AND " + fg, isTrue(3, 0, kinds[f], 0, 3, 0, kinds[g], 0, 18, 0), f == 1 && g == 1);
                DUE.is("OR " + fg, isTrue(3, 0, kinds[f], 0, 3, 0, kinds[g], 0, 19, 0), f == 1 || g == 1);
                DUE.is("IMPLIES " + fg, isTrue(3, 0, kinds[f], 0, 3, 0, kinds[g], 0, 20, 0), f == 0 || g == 1);
            }
        }
    }

    private static void checkQuantifiers() {
        for (int v = 0; v < 3; v++) {
            DUE.is("all v: v in r0", isTrue(2, v, 1, 0, 12, 0, 21, v), false);
            DUE.is("some v: v in r0", isTrue(2, v, 1, 0, 12, 0, 22, v), true);
            DUE.is("all v: v in UNIV", isTrue(2, v, 3, 0, 12, 0, 21, v), true);
            DUE.is("some v: not v in UNIV", isTrue(2, v, 3, 0, 12, 0, 17, 0, 22, v), false);
            DUE.is("all v: one v.r3", isTrue(2, v, 1, 3, 8, 0, 16, 0, 21, v), true);
            DUE.is("all v: one v.r2", isTrue(2, v, 1, 2, 8, 0, 16, 0, 21, v), false);
            DUE.is("all v: some UNIV", isTrue(3, 0, 14, 0, 21, v), true);
            DUE.is("some v: no UNIV", isTrue(3, 0, 15, 0, 22, v), false);
        }
    }

    private static void checkInnerBindingWins() {
        for (int v = 0; v < 3; v++) {
            // all v: (v in r0 implies (some v: v in r1))
            DUE.is("the inner v is its own", isTrue(2, v, 1, 0, 12, 0, 2, v, 1, 1, 12, 0, 22, v, 20, 0, 21, v), true);
            // some v: ((all v: v in UNIV) and v = r1)
            DUE.is("v after an inner v", isTrue(2, v, 3, 0, 12, 0, 21, v, 2, v, 1, 1, 13, 0, 18, 0, 22, v), true);
            // all v: ((some v: v = r1) and v in r0)
            DUE.is("v ranges over all", isTrue(2, v, 1, 1, 13, 0, 22, v, 2, v, 1, 0, 12, 0, 18, 0, 21, v), false);
            // all v: some v: v = r1
            DUE.is("only the inner binds", isTrue(2, v, 1, 1, 13, 0, 22, v, 21, v), true);
            // some v: all v: v = r1
            DUE.is("only the inner binds", isTrue(2, v, 1, 1, 13, 0, 21, v, 22, v), false);
        }
    }

    private static void checkOrderOfQuantifiers() {
        for (int u = 0; u < 3; u++) {
            for (int v = 0; v < 3; v++) {
                if (u != v) {
                    // u -> v in r3, a cycle: each has a next one, none is everyone's next one.
                    DUE.is("all u: some v", isTrue(2, u, 2, v, 9, 0, 1, 3, 12, 0, 22, v, 21, u), true);
                    DUE.is("some v: all u", isTrue(2, u, 2, v, 9, 0, 1, 3, 12, 0, 21, u, 22, v), false);
                    // u -> v in r2, a path: the last one has no next one, the first is no next one.
                    DUE.is("all u: some v", isTrue(2, u, 2, v, 9, 0, 1, 2, 12, 0, 22, v, 21, u), false);
                    DUE.is("some u: all v", isTrue(2, u, 2, v, 9, 0, 1, 2, 12, 0, 17, 0, 21, v, 22, u), true);
                }
            }
        }
    }

    private static boolean isTrueOfCycle(int... formula) {
        RelationFinder x = new RelationFinder(4, 1);
        x.declare(0, 2);
        Calls.fix(x, 0, 0, 1, 1, 2, 2, 3, 3, 0);
        Calls.feed(x, formula);
        return x.solve() == RelationFinder.SAT;
    }

    /** The greatest universe, where no environment is without meaning. */
    private static void checkQuantifiersOverFourAtoms() {
        for (int u = 0; u < 3; u++) {
            int v = (u + 1) % 3;
            int w = (u + 2) % 3;
            DUE.is("each has a next", isTrueOfCycle(2, u, 2, v, 9, 0, 1, 0, 12, 0, 22, v, 21, u), true);
            DUE.is("one is all's next", isTrueOfCycle(2, u, 2, v, 9, 0, 1, 0, 12, 0, 21, u, 22, v), false);
            DUE.is("each has one that is not its next",
                isTrueOfCycle(2, u, 2, v, 9, 0, 1, 0, 12, 0, 17, 0, 22, v, 21, u), true);
            // all u, w: some v: u -> v in r and (v -> w in r or not v -> w in r . r . r)
            DUE.is("no one is three steps after its next",
                isTrueOfCycle(2, u, 2, v, 9, 0, 1, 0, 12, 0, 2, v, 2, w, 9, 0, 1, 0, 12, 0, 2, v, 2, w, 9, 0,
                    1, 0, 1, 0, 8, 0, 1, 0, 8, 0, 12, 0, 17, 0, 19, 0, 18, 0, 22, v, 21, w, 21, u), false);
            // all u, w: some v: u -> v in r and v -> w in closure of r
            DUE.is("all are reached",
                isTrueOfCycle(2, u, 2, v, 9, 0, 1, 0, 12, 0, 2, v, 2, w, 9, 0, 1, 0, 11, 0, 12, 0,
                    18, 0, 22, v, 21, w, 21, u), true);
        }
    }

    private static void checkThreeVariables() {
        RelationFinder x = new RelationFinder(3, 1);
        x.declare(0, 2);
        Calls.fix(x, 0, 0, 1);
        x.bound(0, 1, 2, RelationFinder.FREE);
        x.bound(0, 0, 2, RelationFinder.FREE);
        x.bound(0, 2, 2, RelationFinder.FREE);
        // all 0, 1, 2: 0->1 in r and 1->2 in r implies 0->2 in r
        Calls.feed(x, 2, 0, 2, 1, 9, 0, 1, 0, 12, 0, 2, 1, 2, 2, 9, 0, 1, 0, 12, 0, 18, 0);
        Calls.feed(x, 2, 0, 2, 2, 9, 0, 1, 0, 12, 0, 20, 0, 21, 0, 21, 1, 21, 2);
        DUE.is("solve()", x.solve(), RelationFinder.SAT);
        DUE.is("transitive already", Calls.tuples(x, 0), "01");
        x.bound(0, 1, 2, RelationFinder.REQUIRE);
        DUE.is("solve()", x.solve(), RelationFinder.SAT);
        DUE.is("made transitive", Calls.tuples(x, 0), "01 02 12");
        x.bound(0, 0, 2, RelationFinder.EXCLUDE);
        DUE.is("solve()", x.solve(), RelationFinder.UNSAT);
    }
}
