/** 'Semantics': each row of the table, and each sentence below it, at its edges. */
public final class SemanticsEdgesTest {
    private static final Due DUE = new Due("SemanticsEdgesTest");

    public static void main(String[] args) {
        DUE.check(SemanticsEdgesTest::checkRelation, SemanticsEdgesTest::checkVariable,
            SemanticsEdgesTest::checkUniverse, SemanticsEdgesTest::checkIdentity, SemanticsEdgesTest::checkUnion,
            SemanticsEdgesTest::checkIntersection, SemanticsEdgesTest::checkDifference,
            SemanticsEdgesTest::checkImage, SemanticsEdgesTest::checkPreimage, SemanticsEdgesTest::checkComposition,
            SemanticsEdgesTest::checkProduct, SemanticsEdgesTest::checkTranspose, SemanticsEdgesTest::checkClosure,
            SemanticsEdgesTest::checkIn, SemanticsEdgesTest::checkEqual, SemanticsEdgesTest::checkSome,
            SemanticsEdgesTest::checkNo, SemanticsEdgesTest::checkOne, SemanticsEdgesTest::checkNot,
            SemanticsEdgesTest::checkAnd, SemanticsEdgesTest::checkOr, SemanticsEdgesTest::checkImplies,
            SemanticsEdgesTest::checkAll, SemanticsEdgesTest::checkExists, SemanticsEdgesTest::checkMasks,
            SemanticsEdgesTest::checkJoinOfUnaries, SemanticsEdgesTest::checkClosureIsNotReflexive,
            SemanticsEdgesTest::checkInnerBindingWins, SemanticsEdgesTest::checkComplete,
            SemanticsEdgesTest::checkEnvironmentIsIrrelevant);
        DUE.end();
    }

    /** Whether the words' value is just the wanted relation, in a world of r0, r1, r2 and the wanted one as r3. */
    private static void value(int n, String[] relations, String words, String want) {
        RelationFinder x = Words.world(n, relations[0], relations[1], relations[2], want);
        String asked = words + " of " + String.join(", ", relations) + " over " + n + " is " + want;
        DUE.is(asked, Words.solve(x, words + " r3 eq"), RelationFinder.SAT);
        DUE.is(asked + ", and nothing else", Words.solve(x, words + " r3 eq not"), RelationFinder.UNSAT);
    }

    private static String[] relations(String... given) {
        String[] three = {"1:", "1:", "1:"};
        System.arraycopy(given, 0, three, 0, given.length);
        return three;
    }

    private static void truth(RelationFinder x, String words, boolean want) {
        DUE.is(words, Words.solve(x, words), want ? RelationFinder.SAT : RelationFinder.UNSAT);
    }

    private static void checkRelation() {
        DUE.sentence("| K_REL r | none | arity of r | the set given to r | 0 |");
        for (int n = 1; n <= 4; n++) {
            for (int arity = 1; arity <= 2; arity++) {
                String full = Words.full(n, arity);
                value(n, relations(full), "r0", full);
                value(n, relations(arity + ":"), "r0", arity + ":");
                value(n, relations("1:", "2:", full), "r2", full);
            }
        }
        for (int a = 0; a < 4; a++) {
            for (int b = 0; b < 4; b++) {
                RelationFinder x = Words.world(4, "2: " + a + b, "1: " + a, "1: " + b);
                truth(x, "r0 one", true);
                truth(x, "r1 r2 product r0 eq", true);
                truth(x, "r1 one r2 one and", true);
            }
        }
        truth(Words.world(4, Words.full(4, 2), Words.full(4, 1)), "univ univ product r0 eq univ r1 eq and", true);
    }

    private static void checkVariable() {
        DUE.sentence("| K_VAR v | none | unary | {env[v]} | 1<<v |");
        for (int n = 1; n <= 4; n++) {
            for (int v = 0; v < 3; v++) {
                RelationFinder x = Words.world(n, Words.full(n, 1), "1: 0", "1: " + (n - 1));
                truth(x, "v" + v + " one all" + v, true);
                truth(x, "v" + v + " r0 in all" + v, true);
                truth(x, "v" + v + " r1 eq exists" + v, true);
                truth(x, "v" + v + " r2 eq exists" + v, true);
                truth(x, "v" + v + " r2 eq all" + v, n == 1);
            }
        }
    }

    private static void checkUniverse() {
        DUE.sentence("| K_UNIV | none | unary | all atoms | 0 |");
        for (int n = 1; n <= 4; n++) {
            value(n, relations(), "univ", Words.full(n, 1));
        }
    }

    private static void checkIdentity() {
        DUE.sentence("| K_IDEN | none | binary | {(a,a) for every atom a} | 0 |");
        String[] want = {"2: 00", "2: 00 11", "2: 00 11 22", "2: 00 11 22 33"};
        for (int n = 1; n <= 4; n++) {
            value(n, relations(), "iden", want[n - 1]);
        }
    }

    private static void checkUnion() {
        DUE.sentence("| K_UNION L R | two expressions of equal arity | same arity | L union R | OR |");
        for (int n = 1; n <= 4; n++) {
            for (int arity = 1; arity <= 2; arity++) {
                String full = Words.full(n, arity);
                value(n, relations(arity + ":", arity + ":"), "r0 r1 union", arity + ":");
                value(n, relations(full, arity + ":"), "r0 r1 union", full);
                value(n, relations(arity + ":", full), "r0 r1 union", full);
                value(n, relations(full, full), "r0 r1 union", full);
            }
        }
        value(4, relations("1: 0 3", "1: 2 3"), "r0 r1 union", "1: 0 2 3");
        value(4, relations("2: 00 33", "2: 03 33"), "r0 r1 union", "2: 00 03 33");
    }

    private static void checkIntersection() {
        DUE.sentence("| K_INTER L R | two expressions of equal arity | same arity | L intersect R | OR |");
        for (int n = 1; n <= 4; n++) {
            for (int arity = 1; arity <= 2; arity++) {
                String full = Words.full(n, arity);
                value(n, relations(arity + ":", arity + ":"), "r0 r1 inter", arity + ":");
                value(n, relations(full, arity + ":"), "r0 r1 inter", arity + ":");
                value(n, relations(arity + ":", full), "r0 r1 inter", arity + ":");
                value(n, relations(full, full), "r0 r1 inter", full);
            }
        }
        value(4, relations("1: 0 1", "1: 2 3"), "r0 r1 inter", "1:");
        value(4, relations("1: 0 3", "1: 2 3"), "r0 r1 inter", "1: 3");
        value(4, relations("2: 00 33", "2: 03 33"), "r0 r1 inter", "2: 33");
    }

    private static void checkDifference() {
        DUE.sentence("| K_DIFF L R | two expressions of equal arity | same arity | L minus R | OR |");
        for (int n = 1; n <= 4; n++) {
            for (int arity = 1; arity <= 2; arity++) {
                String full = Words.full(n, arity);
                value(n, relations(arity + ":", arity + ":"), "r0 r1 diff", arity + ":");
                value(n, relations(full, arity + ":"), "r0 r1 diff", full);
                value(n, relations(arity + ":", full), "r0 r1 diff", arity + ":");
                value(n, relations(full, full), "r0 r1 diff", arity + ":");
            }
        }
        value(4, relations("1: 0 3", "1: 2 3"), "r0 r1 diff", "1: 0");
        value(4, relations("2: 00 33", "2: 03 33"), "r0 r1 diff", "2: 00");
    }

    private static void checkImage() {
        DUE.sentence("| K_JOIN L R | L unary, R binary | unary | {b : some a in L, (a,b) in R} | OR |");
        for (int n = 1; n <= 4; n++) {
            String ones = Words.full(n, 1);
            String twos = Words.full(n, 2);
            value(n, relations("1:", twos), "r0 r1 join", "1:");
            value(n, relations(ones, "2:"), "r0 r1 join", "1:");
            value(n, relations(ones, twos), "r0 r1 join", ones);
            value(n, relations("1: " + (n - 1), twos), "r0 r1 join", ones);
            value(n, relations(ones), "r0 iden join", ones);
        }
        value(4, relations("1: 0 1 2", "2: 30 31 32 33"), "r0 r1 join", "1:");
        value(4, relations("1: 0", "2: 03 10"), "r0 r1 join", "1: 3");
        value(4, relations("1: 3", "2: 03 30"), "r0 r1 join", "1: 0");
        value(3, relations("1: 0 2", "2: 02 10 21"), "r0 r1 join", "1: 1 2");
    }

    private static void checkPreimage() {
        DUE.sentence("| K_JOIN L R | L binary, R unary | unary | {a : some b, (a,b) in L, b in R} | OR |");
        for (int n = 1; n <= 4; n++) {
            String ones = Words.full(n, 1);
            String twos = Words.full(n, 2);
            value(n, relations("2:", ones), "r0 r1 join", "1:");
            value(n, relations(twos, "1:"), "r0 r1 join", "1:");
            value(n, relations(twos, ones), "r0 r1 join", ones);
            value(n, relations(twos, "1: " + (n - 1)), "r0 r1 join", ones);
            value(n, relations(ones), "iden r0 join", ones);
        }
        value(4, relations("2: 03 13 23 33", "1: 0 1 2"), "r0 r1 join", "1:");
        value(4, relations("2: 03 10", "1: 3"), "r0 r1 join", "1: 0");
        value(4, relations("2: 03 30", "1: 0"), "r0 r1 join", "1: 3");
        value(3, relations("2: 02 10 21", "1: 0 2"), "r0 r1 join", "1: 0 1");
    }

    private static void checkComposition() {
        DUE.sentence("| K_JOIN L R | both binary | binary | {(a,c) : some b, (a,b) in L, (b,c) in R} | OR |");
        for (int n = 1; n <= 4; n++) {
            String twos = Words.full(n, 2);
            value(n, relations("2:", twos), "r0 r1 join", "2:");
            value(n, relations(twos, "2:"), "r0 r1 join", "2:");
            value(n, relations("2:", "2:"), "r0 r1 join", "2:");
            value(n, relations(twos, twos), "r0 r1 join", twos);
            value(n, relations(twos), "r0 iden join", twos);
            value(n, relations(twos), "iden r0 join", twos);
        }
        value(4, relations("2: 03", "2: 30"), "r0 r1 join", "2: 00");
        value(4, relations("2: 30", "2: 03"), "r0 r1 join", "2: 33");
        value(4, relations("2: 01", "2: 23"), "r0 r1 join", "2:");
        value(4, relations("2: 01 02", "2: 13 23"), "r0 r1 join", "2: 03");
        value(3, relations("2: 01 12 20", "2: 01 12 20"), "r0 r1 join", "2: 02 10 21");
    }

    private static void checkProduct() {
        DUE.sentence("| K_PRODUCT L R | both unary | binary | {(a,b) : a in L, b in R} | OR |");
        for (int n = 1; n <= 4; n++) {
            String ones = Words.full(n, 1);
            value(n, relations("1:", ones), "r0 r1 product", "2:");
            value(n, relations(ones, "1:"), "r0 r1 product", "2:");
            value(n, relations("1:", "1:"), "r0 r1 product", "2:");
            value(n, relations(ones, ones), "r0 r1 product", Words.full(n, 2));
        }
        value(4, relations("1: 0", "1: 3"), "r0 r1 product", "2: 03");
        value(4, relations("1: 3", "1: 0"), "r0 r1 product", "2: 30");
        value(4, relations("1: 1 3", "1: 0 2"), "r0 r1 product", "2: 10 12 30 32");
    }

    private static void checkTranspose() {
        DUE.sentence("| K_TRANSPOSE E | binary | binary | {(b,a) : (a,b) in E} | mask of E |");
        for (int n = 1; n <= 4; n++) {
            value(n, relations("2:"), "r0 transpose", "2:");
            value(n, relations(Words.full(n, 2)), "r0 transpose", Words.full(n, 2));
            for (int a = 0; a < n; a++) {
                for (int b = 0; b < n; b++) {
                    value(n, relations("2: " + a + b), "r0 transpose", "2: " + b + a);
                }
            }
        }
    }

    private static void checkClosure() {
        DUE.sentence("| K_CLOSURE E | binary | binary | least transitive relation containing E | mask of E |");
        for (int n = 1; n <= 4; n++) {
            value(n, relations("2:"), "r0 closure", "2:");
            value(n, relations(Words.full(n, 2)), "r0 closure", Words.full(n, 2));
            value(n, relations(), "iden closure", n == 1 ? "2: 00" : "2: 00 11 22 33".substring(0, 2 + 3 * n));
        }
        int[][] orders = {{0, 1, 2, 3}, {3, 2, 1, 0}, {1, 3, 0, 2}, {2, 0, 3, 1}, {0, 2, 1, 3}, {3, 0, 1, 2},
            {1, 0, 3, 2}};
        for (int[] o : orders) {
            String path = "2: " + o[0] + o[1] + " " + o[1] + o[2] + " " + o[2] + o[3];
            String closed = path + " " + o[0] + o[2] + " " + o[0] + o[3] + " " + o[1] + o[3];
            value(4, relations(path), "r0 closure", closed);
            value(4, relations(closed), "r0 closure", closed);
            value(4, relations(path + " " + o[3] + o[0]), "r0 closure", Words.full(4, 2));
        }
        value(4, relations("2: 01 23"), "r0 closure", "2: 01 23");
        value(4, relations("2: 01 10 23 32"), "r0 closure", "2: 00 01 10 11 22 23 32 33");
    }

    private static void checkIn() {
        DUE.sentence("| K_IN L R | two expressions of equal arity | formula | L subset of R | OR |");
        for (int arity = 1; arity <= 2; arity++) {
            String last = arity == 1 ? "3" : "33";
            String first = arity == 1 ? "0" : "00";
            RelationFinder x = Words.world(4, arity + ":", Words.full(4, arity), arity + ": " + last,
                arity + ": " + first + " " + last);
            truth(x, "r0 r0 in", true);
            truth(x, "r0 r1 in", true);
            truth(x, "r1 r0 in", false);
            truth(x, "r1 r1 in", true);
            truth(x, "r2 r0 in", false);
            truth(x, "r2 r3 in", true);
            truth(x, "r3 r2 in", false);
            truth(x, "r2 r2 in", true);
            truth(x, "r1 r2 diff r2 in", false);
        }
    }

    private static void checkEqual() {
        DUE.sentence("| K_EQ L R | two expressions of equal arity | formula | L equals R | OR |");
        for (int arity = 1; arity <= 2; arity++) {
            String last = arity == 1 ? "3" : "33";
            String first = arity == 1 ? "0" : "00";
            RelationFinder x = Words.world(4, arity + ":", Words.full(4, arity), arity + ": " + last,
                arity + ": " + first);
            truth(x, "r0 r0 eq", true);
            truth(x, "r0 r1 eq", false);
            truth(x, "r1 r0 eq", false);
            truth(x, "r1 r1 eq", true);
            truth(x, "r2 r3 eq", false);
            truth(x, "r2 r0 eq", false);
            truth(x, "r1 r1 r2 diff eq", false);
            truth(x, "r1 r3 diff r1 eq", false);
        }
    }

    private static void checkSome() {
        DUE.sentence("| K_SOME E | one expression | formula | E has at least 1 tuple | mask of E |");
        checkCounts(RelationFinder.K_SOME);
    }

    private static void checkNo() {
        DUE.sentence("| K_NO E | one expression | formula | E has 0 tuples | mask of E |");
        checkCounts(RelationFinder.K_NO);
    }

    private static void checkOne() {
        DUE.sentence("| K_ONE E | one expression | formula | E has exactly 1 tuple | mask of E |");
        checkCounts(RelationFinder.K_ONE);
    }

    private static void checkCounts(int kind) {
        for (int arity = 1; arity <= 2; arity++) {
            for (int n = 1; n <= 4; n++) {
                int tuples = arity == 1 ? n : n * n;
                for (int size = 0; size <= tuples; size++) {
                    checkCount(kind, n, arity, 0, size);
                    checkCount(kind, n, arity, tuples - size, size);
                }
                for (int from = 0; from < tuples; from++) {
                    checkCount(kind, n, arity, from, 1);
                }
            }
        }
    }

    /** Of a relation that holds so many tuples in order, from a given one on. */
    private static void checkCount(int kind, int n, int arity, int from, int size) {
        RelationFinder x = Words.world(n, arity + ":");
        for (int i = from; i < from + size; i++) {
            x.bound(0, arity == 1 ? i : i / n, arity == 1 ? 0 : i % n, RelationFinder.REQUIRE);
        }
        boolean some = kind == RelationFinder.K_SOME && size >= 1;
        boolean no = kind == RelationFinder.K_NO && size == 0;
        boolean one = kind == RelationFinder.K_ONE && size == 1;
        truth(x, "r0 " + Words.KINDS.get(kind - 1), some || no || one);
    }

    private static void checkNot() {
        DUE.sentence("| K_NOT F | formula | formula | not F | mask of F |");
        RelationFinder x = new RelationFinder(1, 1);
        truth(x, "univ no not", true);
        truth(x, "univ some not", false);
        truth(x, "univ no not not", false);
        truth(x, "univ some not not", true);
    }

    private static void checkAnd() {
        DUE.sentence("| K_AND F G | two formulas | formula | F and G | OR |");
        checkConnective("and", false, false, false, true);
    }

    private static void checkOr() {
        DUE.sentence("| K_OR F G | two formulas | formula | F or G | OR |");
        checkConnective("or", false, true, true, true);
    }

    private static void checkImplies() {
        DUE.sentence("| K_IMPLIES F G | two formulas | formula | (not F) or G | OR |");
        checkConnective("implies", true, true, false, true);
    }

    /** The answers for F G = 00, 01, 10, 11. */
    private static void checkConnective(String word, boolean... want) {
        String[] words = {"univ no ", "univ some "};
        for (int fg = 0; fg < 4; fg++) {
            truth(new RelationFinder(1, 1), words[fg / 2] + words[fg % 2] + word, want[fg]);
            truth(new RelationFinder(4, 1), words[fg / 2] + words[fg % 2] + word + " not", !want[fg]);
        }
    }

    private static void checkAll() {
        DUE.sentence("| K_ALL v F | formula | formula | F true with env[v]:=a for EVERY atom a | mask of F minus "
            + "bit v |");
        for (int n = 1; n <= 4; n++) {
            for (int v = 0; v < 3; v++) {
                for (int set = 0; set < 1 << n; set++) {
                    truth(worldOf(n, set), "v" + v + " r0 in all" + v, set == (1 << n) - 1);
                }
                truth(new RelationFinder(n, 1), "univ some all" + v, true);
                truth(new RelationFinder(n, 1), "univ no all" + v, false);
            }
        }
    }

    private static void checkExists() {
        DUE.sentence("| K_EXISTS v F | formula | formula | F true with env[v]:=a for SOME atom a | mask of F minus "
            + "bit v |");
        for (int n = 1; n <= 4; n++) {
            for (int v = 0; v < 3; v++) {
                for (int set = 0; set < 1 << n; set++) {
                    truth(worldOf(n, set), "v" + v + " r0 in exists" + v, set != 0);
                }
                truth(new RelationFinder(n, 1), "univ some exists" + v, true);
                truth(new RelationFinder(n, 1), "univ no exists" + v, false);
            }
        }
    }

    private static RelationFinder worldOf(int n, int set) {
        RelationFinder x = Words.world(n, "1:");
        for (int a = 0; a < n; a++) {
            x.bound(0, a, 0, (set >> a & 1) == 1 ? RelationFinder.REQUIRE : RelationFinder.EXCLUDE);
        }
        return x;
    }

    private static void checkMasks() {
        DUE.sentence("| Mask | 0, 1<<v, OR, mask of E, mask of F, mask of F minus bit v");
        RelationFinder x = new RelationFinder(2, 2);
        x.declare(1, 2);
        Words.feed(x, "r0 r1 univ iden v0 v1 v2");
        int[] leaves = {1, 2, 1, 2, 1 + 4, 1 + 8, 1 + 16};
        for (int i = 0; i < leaves.length; i++) {
            DUE.is("stackEntry(" + i + ")", x.stackEntry(i), leaves[i]);
        }
        for (int mask = 0; mask < 8; mask++) {
            for (String word : new String[] {"transpose", "closure", "some", "no", "one"}) {
                RelationFinder y = new RelationFinder(2, 1);
                Words.feed(y, Words.entry(RelationFinder.E_BINARY, mask) + " " + word);
                DUE.is("mask of " + word, y.stackEntry(0) / 4, mask);
            }
            RelationFinder y = new RelationFinder(2, 1);
            Words.feed(y, Words.entry(RelationFinder.E_FORMULA, mask) + " not");
            DUE.is("mask of not", y.stackEntry(0) / 4, mask);
        }
    }

    private static void checkJoinOfUnaries() {
        DUE.sentence("K_JOIN with both operands unary is refused with ERR_TYPE.");
        for (String words : new String[] {"univ univ", "r0 v0", "v0 v1", "univ univ univ", "iden univ univ"}) {
            RelationFinder x = new RelationFinder(2, 1);
            Words.feed(x, words);
            String before = Calls.picture(x);
            DUE.is("join on " + words, x.add(RelationFinder.K_JOIN, 0), RelationFinder.ERR_TYPE);
            DUE.is("all getters after it", Calls.picture(x), before);
        }
    }

    private static void checkClosureIsNotReflexive() {
        DUE.sentence("The closure is not reflexive: it holds (a,a) only if a reaches itself in 1 or more steps.");
        String[] none = {"2:", "2: 01", "2: 01 12", "2: 01 12 23", "2: 32 21 10", "2: 01 02 03 12 13 23"};
        for (String relation : none) {
            truth(Words.world(4, relation), "r0 closure iden inter no", true);
        }
        value(4, relations("2: 22"), "r0 closure iden inter", "2: 22");
        value(4, relations("2: 13 31"), "r0 closure iden inter", "2: 11 33");
        value(4, relations("2: 03 31 10"), "r0 closure iden inter", "2: 00 11 33");
        value(4, relations("2: 02 21 13 30"), "r0 closure iden inter", "2: 00 11 22 33");
        value(4, relations("2: 01 11 12"), "r0 closure iden inter", "2: 11");
    }

    private static void checkInnerBindingWins() {
        DUE.sentence("A quantifier binds the occurrences of K_VAR v inside its body F that are not already bound "
            + "by a quantifier on v nearer to them (inner binding wins).");
        for (int n = 2; n <= 4; n++) {
            for (int v = 0; v < 3; v++) {
                RelationFinder x = Words.world(n, "1: 0", "1: " + (n - 1));
                String isFirst = "v" + v + " r0 eq ";
                String isLast = "v" + v + " r1 eq ";
                String all = "all" + v + " ";
                String exists = "exists" + v + " ";
                truth(x, isFirst + exists + all, true);
                truth(x, isFirst + all + exists, false);
                truth(x, isFirst + exists + isLast + "and " + exists, true);
                truth(x, isFirst + exists + isLast + "and " + all, false);
                truth(x, isFirst + isLast + "and " + exists, false);
                truth(x, isFirst + isLast + exists + "and " + exists, true);
                truth(x, isFirst + isLast + exists + isFirst + "and " + exists + "and " + exists, true);
                truth(x, isFirst + isLast + isFirst + "and " + exists + "and " + exists, false);
                truth(x, isFirst + exists + exists + exists + all, true);
            }
        }
    }

    private static void checkComplete() {
        DUE.sentence("The FORMULA is COMPLETE when the stack holds exactly one entry, it is a formula, and its "
            + "mask is 0.");
        RelationFinder x = new RelationFinder(2, 1);
        DUE.is("no entry", x.solve(), RelationFinder.ERR_NOT_FORMULA);
        Words.feed(x, "v0");
        DUE.is("one expression", x.solve(), RelationFinder.ERR_NOT_FORMULA);
        Words.feed(x, "some");
        DUE.is("one formula with a variable", x.solve(), RelationFinder.ERR_FREE_VAR);
        Words.feed(x, "all0");
        DUE.is("one formula", x.solve(), RelationFinder.SAT);
        Words.feed(x, "univ some");
        DUE.is("two formulas", x.solve(), RelationFinder.ERR_NOT_FORMULA);
        Words.feed(x, "and");
        DUE.is("one formula again", x.solve(), RelationFinder.SAT);
    }

    /** Whatever variables are bound where, and were in formulas before, a complete formula is true or not by itself. */
    private static void checkEnvironmentIsIrrelevant() {
        DUE.sentence("A MODEL is an assignment that respects the bounds and makes the complete formula true (the "
            + "environment is then irrelevant).");
        for (int n = 1; n <= 4; n++) {
            RelationFinder x = Words.world(n, "1: " + (n - 1), "1:");
            for (String before : new String[] {"v0 r0 eq exists0", "v2 r1 in all2", "v1 v2 eq all1 all2"}) {
                Words.solve(x, before);
                truth(x, "r0 one", true);
                truth(x, "r1 some", false);
                truth(x, "r0 one all2 exists1 all0", true);
                truth(x, "r1 some exists2 all1 exists0", false);
                truth(x, "v1 r0 eq exists1 all2 all0", true);
                truth(x, "v1 r1 eq exists1 exists0 exists2", false);
            }
        }
    }
}
