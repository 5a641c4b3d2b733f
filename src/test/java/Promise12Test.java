/** Promise 12, sentence by sentence: solve. */
public final class Promise12Test {
    private static final Due DUE = new Due("Promise12Test");

    private static final String[] FORMULAS = {
        "r0 one r1 some and", "r0 r1 join r0 eq r0 some and", "r1 closure iden inter no r1 some and",
        "v0 r1 join some all0", "v0 v1 product r1 in v1 r0 in and exists1 all0", "r1 r1 transpose eq r1 one not and",
        "r1 iden diff some r0 univ eq and", "r0 r0 product r1 eq", "r0 some r0 no and", "r1 one r1 r1 join no not and"
    };

    public static void main(String[] args) {
        DUE.check(Promise12Test::checkNotOneEntry, Promise12Test::checkNotFormula, Promise12Test::checkFreeVariable,
            Promise12Test::checkTooBig, Promise12Test::checkOrder, Promise12Test::checkRefusalChangesNothing,
            Promise12Test::checkSat, Promise12Test::checkUnsat, Promise12Test::checkRequiredAndExcluded,
            Promise12Test::checkBoundsOfThisSolve, Promise12Test::checkInstanceIsModel,
            Promise12Test::checkNoModelPrecedes, Promise12Test::checkUnsatMeansNone, Promise12Test::checkNoFreeTuple,
            Promise12Test::checkAllFreeTuples, Promise12Test::checkMostTokens, Promise12Test::checkSolvingAgain,
            Promise12Test::checkNothingElseChanges);
        DUE.end();
    }

    private static void checkNotOneEntry() {
        DUE.sentence("1. depth() != 1 [..] -> ERR_NOT_FORMULA");
        DUE.is("solve() with depth 0", new RelationFinder(1, 1).solve(), RelationFinder.ERR_NOT_FORMULA);
        String[] formulas = {"univ some univ some", "univ univ some", "univ some univ",
            "univ some univ some univ some"};
        for (String words : formulas) {
            DUE.is("solve() of " + words, Stages.fed(words).solve(), RelationFinder.ERR_NOT_FORMULA);
        }
        DUE.is("solve() with depth 32", Stages.fullStack().solve(), RelationFinder.ERR_NOT_FORMULA);
        RelationFinder cleared = Stages.sat();
        cleared.clearFormula();
        DUE.is("solve() after clearFormula", cleared.solve(), RelationFinder.ERR_NOT_FORMULA);
    }

    private static void checkNotFormula() {
        DUE.sentence("1. [..] or the single entry is not a formula -> ERR_NOT_FORMULA");
        for (String words : new String[] {"univ", "iden", "r0", "r1", "v0", "r0 r1 join", "univ univ product"}) {
            DUE.is("solve() of " + words, Stages.fed(words).solve(), RelationFinder.ERR_NOT_FORMULA);
            DUE.is("solve() of some", Stages.fed(words + " some all0").solve() > 0, true);
        }
    }

    private static void checkFreeVariable() {
        DUE.sentence("2. its mask != 0 -> ERR_FREE_VAR");
        for (int mask = 1; mask <= 7; mask++) {
            RelationFinder x = Stages.fed(Words.entry(RelationFinder.E_FORMULA, mask));
            for (int v = 0; v < 3; v++) {
                DUE.is("solve() with mask " + x.stackEntry(0) / 4, x.solve(),
                    x.stackEntry(0) == 0 ? RelationFinder.SAT : RelationFinder.ERR_FREE_VAR);
                Words.feed(x, "exists" + v);
            }
            DUE.is("solve() with mask 0", x.solve(), RelationFinder.SAT);
        }
    }

    private static void checkTooBig() {
        DUE.sentence("3. freeCount() > MAX_FREE -> ERR_TOO_BIG");
        RelationFinder x = new RelationFinder(4, 4);
        for (int rel = 0; rel < 4; rel++) {
            x.declare(rel, 2);
        }
        Words.feed(x, "univ some");
        for (int i = 0; i < 64; i++) {
            int free = x.freeCount();
            int want = free > 12 ? RelationFinder.ERR_TOO_BIG : RelationFinder.SAT;
            DUE.is("solve() with " + free + " FREE tuples", x.solve(), want);
            DUE.is("status() with " + free + " FREE tuples", x.status(), free > 12 ? 0 : RelationFinder.SAT);
            x.bound(i % 4, i / 16, i / 4 % 4, 1 + i % 2);
        }
        DUE.is("freeCount()", x.freeCount(), 0);
        DUE.is("solve() with no FREE tuple", x.solve(), RelationFinder.SAT);
    }

    private static void checkOrder() {
        DUE.sentence("The conditions are examined in this order (solve)");
        for (int free = 12; free <= 16; free += 4) {
            RelationFinder x = new RelationFinder(4, free / 4);
            DUE.is("solve() of nothing", x.solve(), RelationFinder.ERR_NOT_FORMULA);
            Words.feed(x, "v1");
            DUE.is("solve() of an expression with a variable", x.solve(), RelationFinder.ERR_NOT_FORMULA);
            Words.feed(x, "some");
            DUE.is("solve() of a formula with a variable", x.solve(), RelationFinder.ERR_FREE_VAR);
            Words.feed(x, "v1 some");
            DUE.is("solve() of two formulas with a variable", x.solve(), RelationFinder.ERR_NOT_FORMULA);
            Words.feed(x, "or");
            DUE.is("solve() of one again", x.solve(), RelationFinder.ERR_FREE_VAR);
            Words.feed(x, "all1");
            int want = free == 12 ? RelationFinder.SAT : RelationFinder.ERR_TOO_BIG;
            DUE.is("solve() of a complete formula, " + free + " FREE tuples", x.solve(), want);
        }
    }

    /** A refused solve always meets NOT_SOLVED: a change that makes it refused has forgotten the result before. */
    private static void checkRefusalChangesNothing() {
        DUE.sentence("When refused, nothing changes: status and instance stay as they were.");
        RelationFinder tooBig = new RelationFinder(4, 4);
        Words.feed(tooBig, "r3 some");
        RelationFinder onceSat = Stages.sat();
        Words.feed(onceSat, "v0 some and");
        RelationFinder onceUnsat = Stages.unsat();
        Words.feed(onceUnsat, "univ");
        RelationFinder[] refusing = {new RelationFinder(1, 1), Stages.bounded(), Stages.fed("r0"),
            Stages.fed("v0 some"), Stages.fullStack(), tooBig, onceSat, onceUnsat, onceTwelve()};
        for (RelationFinder x : refusing) {
            String before = Calls.picture(x);
            for (int i = 0; i < 3; i++) {
                DUE.is("solve()", x.solve(), Refusals.ofSolve(x));
                DUE.is("status()", x.status(), RelationFinder.NOT_SOLVED);
                DUE.is("all getters after it", Calls.picture(x), before);
            }
        }
    }

    /** Solved with 12 FREE tuples, and then one more. */
    private static RelationFinder onceTwelve() {
        RelationFinder x = new RelationFinder(4, 4);
        Words.feed(x, "r3 some");
        Words.boundAll(x, 3, RelationFinder.REQUIRE);
        DUE.is("solve() with 12 FREE tuples", x.solve(), RelationFinder.SAT);
        DUE.is("bound", x.bound(3, 1, 0, RelationFinder.FREE), 13);
        return x;
    }

    private static void checkSat() {
        DUE.sentence("Otherwise, if a model exists, status becomes SAT, the reported instance is the least model, "
            + "and the answer is SAT.");
        RelationFinder x = new RelationFinder(2, 2);
        DUE.is("solve()", Words.solve(x, "r0 r1 in r0 some and"), RelationFinder.SAT);
        DUE.is("status()", x.status(), RelationFinder.SAT);
        DUE.is("r0", Calls.tuples(x, 0), "1");
        DUE.is("r1", Calls.tuples(x, 1), "1");
    }

    private static void checkUnsat() {
        DUE.sentence("If no model exists, status becomes UNSAT, there is no instance, and the answer is UNSAT.");
        RelationFinder x = new RelationFinder(2, 1);
        DUE.is("solve()", Words.solve(x, "r0 some"), RelationFinder.SAT);
        x.bound(0, 0, 0, RelationFinder.EXCLUDE);
        x.bound(0, 1, 0, RelationFinder.EXCLUDE);
        DUE.is("solve() when all is excluded", x.solve(), RelationFinder.UNSAT);
        DUE.is("status()", x.status(), RelationFinder.UNSAT);
        DUE.is("has(0, 0, 0)", x.has(0, 0, 0), -1);
        DUE.is("has(0, 1, 0)", x.has(0, 1, 0), -1);
        DUE.is("instanceSize(0)", x.instanceSize(0), -1);
        x.bound(0, 0, 0, RelationFinder.FREE);
        DUE.is("solve() when one is free again", x.solve(), RelationFinder.SAT);
        DUE.is("has(0, 0, 0)", x.has(0, 0, 0), 1);
    }

    private static void checkRequiredAndExcluded() {
        DUE.sentence("The instance holds every tuple whose mode is REQUIRE and none whose mode is EXCLUDE");
        for (String words : new String[] {"univ some", "r0 some", "r1 some", "r0 no not", "r1 r1 eq"}) {
            RelationFinder x = Stages.fed(words);
            DUE.is("solve() of " + words, x.solve(), RelationFinder.SAT);
            for (int rel = 0; rel < 2; rel++) {
                for (int a = 0; a < 3; a++) {
                    for (int b = 0; b < (rel == 0 ? 1 : 3); b++) {
                        int want = x.boundOf(rel, a, b) == RelationFinder.REQUIRE ? 1 : 0;
                        DUE.is("has(" + rel + ", " + a + ", " + b + ")", x.has(rel, a, b), want);
                    }
                }
            }
        }
        RelationFinder x = Stages.fed("r0 no r1 no or");
        DUE.is("solve() against REQUIRE", x.solve(), RelationFinder.UNSAT);
        RelationFinder y = Stages.fed("univ r0 in");
        DUE.is("solve() against EXCLUDE", y.solve(), RelationFinder.UNSAT);
    }

    private static void checkBoundsOfThisSolve() {
        DUE.sentence("[..] at the moment of this solve");
        RelationFinder x = new RelationFinder(4, 1);
        Words.feed(x, "r0 r0 eq");
        for (int wanted = 0; wanted < 16; wanted++) {
            for (int a = 0; a < 4; a++) {
                x.bound(0, a, 0, (wanted >> a & 1) == 1 ? RelationFinder.REQUIRE : RelationFinder.EXCLUDE);
            }
            DUE.is("solve()", x.solve(), RelationFinder.SAT);
            for (int a = 0; a < 4; a++) {
                DUE.is("has(0, " + a + ", 0) of " + wanted, x.has(0, a, 0), wanted >> a & 1);
            }
        }
    }

    /** r0 is unary and r1 binary over two atoms: tuple i of r0 then r1 is wanted where bit i is set. */
    private static void fix(RelationFinder x, int wanted) {
        for (int i = 0; i < 6; i++) {
            int mode = (wanted >> i & 1) == 1 ? RelationFinder.REQUIRE : RelationFinder.EXCLUDE;
            x.bound(i < 2 ? 0 : 1, i < 2 ? i : (i - 2) / 2, i < 2 ? 0 : i % 2, mode);
        }
    }

    private static int instance(RelationFinder x) {
        int held = 0;
        for (int i = 0; i < 6; i++) {
            held |= x.has(i < 2 ? 0 : 1, i < 2 ? i : (i - 2) / 2, i < 2 ? 0 : i % 2) << i;
        }
        return held;
    }

    private static RelationFinder twoAtoms(String words) {
        RelationFinder x = new RelationFinder(2, 2);
        x.declare(1, 2);
        Words.feed(x, words);
        return x;
    }

    private static void checkInstanceIsModel() {
        DUE.sentence("evaluating the complete formula on it by the semantics table gives true");
        for (String words : FORMULAS) {
            RelationFinder x = twoAtoms(words);
            if (x.solve() == RelationFinder.SAT) {
                int held = instance(x);
                fix(x, held);
                DUE.is("solve() of " + words + " on its instance", x.solve(), RelationFinder.SAT);
                DUE.is("the instance", instance(x), held);
            }
        }
    }

    /** The order of 6-bit numbers in which position 0 weighs most. */
    private static int placeOf(int held) {
        return Integer.reverse(held) >>> 26;
    }

    private static void checkNoModelPrecedes() {
        DUE.sentence("and no other assignment that respects those bounds and makes the formula true precedes it");
        for (String words : FORMULAS) {
            int least = -1;
            for (int held = 0; held < 64; held++) {
                RelationFinder fixed = twoAtoms(words);
                fix(fixed, held);
                if (fixed.solve() == RelationFinder.SAT && (least < 0 || placeOf(held) < placeOf(least))) {
                    least = held;
                }
            }
            RelationFinder x = twoAtoms(words);
            DUE.is("solve() of " + words, x.solve(), least < 0 ? RelationFinder.UNSAT : RelationFinder.SAT);
            if (least >= 0) {
                DUE.is("the least model of " + words, instance(x), least);
            }
        }
    }

    /** The only model is each assignment in turn; without it none is left. */
    private static void checkUnsatMeansNone() {
        DUE.sentence("An answer of UNSAT means that no assignment respecting the bounds makes the complete formula "
            + "true.");
        for (int only = 0; only < 16; only++) {
            RelationFinder x = new RelationFinder(4, 2);
            for (int a = 0; a < 4; a++) {
                x.bound(1, a, 0, (only >> a & 1) == 1 ? RelationFinder.REQUIRE : RelationFinder.EXCLUDE);
            }
            DUE.is("solve() of r0 = r1", Words.solve(x, "r0 r1 eq"), RelationFinder.SAT);
            for (int a = 0; a < 4; a++) {
                DUE.is("has(0, " + a + ", 0)", x.has(0, a, 0), only >> a & 1);
            }
            for (int a = 0; a < 4; a++) {
                x.bound(0, a, 0, (only >> a & 1) == 1 ? RelationFinder.EXCLUDE : RelationFinder.REQUIRE);
                DUE.is("solve() with one tuple against it", x.solve(), RelationFinder.UNSAT);
                x.bound(0, a, 0, RelationFinder.FREE);
            }
        }
    }

    private static void checkNoFreeTuple() {
        DUE.sentence("Solving searches all assignments that respect the bounds (no FREE tuple: there is one)");
        RelationFinder all = Words.world(4, Words.full(4, 2), Words.full(4, 1), "2:", "1:");
        DUE.is("freeCount()", all.freeCount(), 0);
        DUE.is("solve()", Words.solve(all, "r0 r2 in not r3 no and"), RelationFinder.SAT);
        int[] sizes = {16, 4, 0, 0};
        for (int rel = 0; rel < 4; rel++) {
            DUE.is("instanceSize(" + rel + ")", all.instanceSize(rel), sizes[rel]);
        }
        DUE.is("solve() of the opposite", Words.solve(all, "r0 r2 in not r3 no and not"), RelationFinder.UNSAT);
    }

    private static void checkAllFreeTuples() {
        DUE.sentence("with at most MAX_FREE free tuples (12 of them: the first, the last and no assignment at all)");
        RelationFinder x = new RelationFinder(4, 3);
        DUE.is("freeCount()", x.freeCount(), 12);
        DUE.is("solve() of a tautology", Words.solve(x, "r0 r0 eq"), RelationFinder.SAT);
        DUE.is("the first", Calls.tuples(x, 0) + "/" + Calls.tuples(x, 1) + "/" + Calls.tuples(x, 2), "//");
        String allFull = "univ r0 in univ r1 in and univ r2 in and";
        DUE.is("solve() of all", Words.solve(x, allFull), RelationFinder.SAT);
        for (int rel = 0; rel < 3; rel++) {
            DUE.is("the last", Calls.tuples(x, rel), "0 1 2 3");
        }
        DUE.is("solve() of none", Words.solve(x, allFull + " r2 no and"), RelationFinder.UNSAT);
    }

    /** 15 entries on top of each other, of which the lowest alone holds something; then three variables. */
    private static void checkMostTokens() {
        DUE.sentence("[..] the complete formula (of MAX_TOKENS tokens)");
        RelationFinder x = new RelationFinder(2, 2);
        Words.boundAll(x, 1, RelationFinder.EXCLUDE);
        Words.feed(x, "r0 " + "r1 ".repeat(14) + "union ".repeat(14) + "some not not");
        DUE.is("tokenCount()", x.tokenCount(), 32);
        DUE.is("solve()", x.solve(), RelationFinder.SAT);
        DUE.is("r0", Calls.tuples(x, 0), "1");
        RelationFinder y = new RelationFinder(4, 1);
        Words.feed(y, "v0 v1 product v2 univ product diff v0 v2 product union univ univ product in r0 univ eq and "
            + "all0 exists1 all2 not r0 some or r0 some and not not all0");
        DUE.is("tokenCount()", y.tokenCount(), 32);
        DUE.is("solve()", y.solve(), RelationFinder.SAT);
        DUE.is("r0", Calls.tuples(y, 0), "3");
    }

    private static void checkSolvingAgain() {
        DUE.sentence("Solving again without an accepted change in between gives the same answer and the same "
            + "instance.");
        for (RelationFinder x : new RelationFinder[] {Stages.sat(), Stages.unsat(), Stages.fullOfTokens()}) {
            int first = x.solve();
            String before = Calls.picture(x);
            for (int i = 0; i < 3; i++) {
                DUE.is("solve() again", x.solve(), first);
                DUE.is("all getters after it", Calls.picture(x), before);
                Refusals.makeAll(DUE, x, 2);
                DUE.is("solve() after refused calls", x.solve(), first);
                DUE.is("all getters after it", Calls.picture(x), before);
            }
        }
    }

    private static void checkNothingElseChanges() {
        DUE.sentence("Tokens, stack, arities and bound modes do not change. (solve)");
        String[] formulas = {"r0 one iden r1 inter some and", "r0 no", "v0 r1 join some exists0",
            "univ some" + " not".repeat(30)};
        for (String words : formulas) {
            RelationFinder x = Stages.fed(words);
            String before = withoutResult(x);
            DUE.is("solve() of " + words, x.solve() > 0, true);
            DUE.is("tokens, stack, arities and bounds", withoutResult(x), before);
        }
    }

    private static String withoutResult(RelationFinder x) {
        StringBuilder told = new StringBuilder();
        told.append(x.atoms()).append(' ').append(x.freeCount()).append(' ').append(x.tokenCount());
        told.append(' ').append(x.depth());
        for (int i = -1; i <= 32; i++) {
            told.append(' ').append(x.token(i)).append(' ').append(x.stackEntry(i));
        }
        for (int rel = -1; rel <= 4; rel++) {
            told.append(' ').append(x.arityOf(rel));
            for (int a = -1; a <= 4; a++) {
                for (int b = -1; b <= 4; b++) {
                    told.append(' ').append(x.boundOf(rel, a, b));
                }
            }
        }
        return told.toString();
    }
}
