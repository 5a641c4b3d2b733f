/** Promise 3, sentence by sentence: declare. */
public final class Promise03Test {
    private static final Due DUE = new Due("Promise03Test");

    public static void main(String[] args) {
        DUE.check(Promise03Test::checkWrongRelation, Promise03Test::checkWrongArity,
            Promise03Test::checkBusyFromTheFirstToken, Promise03Test::checkNotBusyWithoutTokens,
            Promise03Test::checkOrder, Promise03Test::checkRefusalChangesNothing, Promise03Test::checkAccepted,
            Promise03Test::checkUnchangedArity, Promise03Test::checkAllTuplesAreFree,
            Promise03Test::checkResultIsForgotten, Promise03Test::checkOthersStay);
        DUE.end();
    }

    private static void checkWrongRelation() {
        DUE.sentence("1. rel < 0 or rel >= R -> ERR_ARG");
        for (int r = 1; r <= 4; r++) {
            RelationFinder x = new RelationFinder(2, r);
            for (int rel : Numbers.outside(0, r - 1)) {
                for (int arity = 1; arity <= 2; arity++) {
                    String call = "declare(" + rel + ", " + arity + ") with R = " + r;
                    DUE.is(call, x.declare(rel, arity), RelationFinder.ERR_ARG);
                }
            }
            DUE.is("declare(0, 2) with R = " + r, x.declare(0, 2), 0);
            DUE.is("declare(R - 1, 2) with R = " + r, x.declare(r - 1, 2), 0);
        }
    }

    private static void checkWrongArity() {
        DUE.sentence("2. arity not 1 and not 2 -> ERR_ARG");
        for (int rel = 0; rel < 4; rel++) {
            RelationFinder x = new RelationFinder(2, 4);
            for (int arity : Numbers.outside(1, 2)) {
                DUE.is("declare(" + rel + ", " + arity + ")", x.declare(rel, arity), RelationFinder.ERR_ARG);
            }
        }
    }

    private static void checkBusyFromTheFirstToken() {
        DUE.sentence("3. tokenCount() > 0 -> ERR_BUSY");
        RelationFinder x = new RelationFinder(2, 2);
        DUE.is("declare(0, 2) with 0 tokens", x.declare(0, 2), 0);
        while (x.tokenCount() < RelationFinder.MAX_TOKENS) {
            x.add(RelationFinder.K_UNIV, 0);
            String with = " with " + x.tokenCount() + " tokens";
            DUE.is("declare(0, 2)" + with, x.declare(0, 2), RelationFinder.ERR_BUSY);
            DUE.is("declare(0, 1)" + with, x.declare(0, 1), RelationFinder.ERR_BUSY);
            DUE.is("declare(1, 2)" + with, x.declare(1, 2), RelationFinder.ERR_BUSY);
            DUE.is("declare(1, 1)" + with, x.declare(1, 1), RelationFinder.ERR_BUSY);
        }
        for (RelationFinder solved : new RelationFinder[] {Stages.sat(), Stages.unsat()}) {
            DUE.is("declare(0, 1) after a solve", solved.declare(0, 1), RelationFinder.ERR_BUSY);
        }
    }

    private static void checkNotBusyWithoutTokens() {
        DUE.sentence("3. tokenCount() > 0 -> ERR_BUSY (and not without tokens)");
        RelationFinder x = new RelationFinder(2, 2);
        x.add(RelationFinder.K_REL, 2);
        x.add(RelationFinder.K_NOT, 0);
        x.add(23, 0);
        DUE.is("declare(1, 2) after refused tokens", x.declare(1, 2), 0);
        RelationFinder[] cleared = {Stages.fed("univ"), Stages.sat(), Stages.unsat(), Stages.fullOfTokens()};
        for (RelationFinder y : cleared) {
            y.clearFormula();
            DUE.is("declare(0, 2) after clearFormula", y.declare(0, 2), 0);
        }
    }

    /** Conditions 1 and 2 answer alike, so that only their place before condition 3 can be seen. */
    private static void checkOrder() {
        DUE.sentence("The conditions are examined in this order (declare)");
        for (RelationFinder x : new RelationFinder[] {Stages.fed("univ"), Stages.sat(), Stages.fullOfTokens()}) {
            for (int rel : Numbers.ALL) {
                for (int arity : Numbers.ALL) {
                    boolean wrong = rel < 0 || rel > 1 || arity < 1 || arity > 2;
                    int want = wrong ? RelationFinder.ERR_ARG : RelationFinder.ERR_BUSY;
                    DUE.is("declare(" + rel + ", " + arity + ") with tokens", x.declare(rel, arity), want);
                }
            }
        }
    }

    private static void checkRefusalChangesNothing() {
        DUE.sentence("When refused, nothing changes. (declare)");
        for (RelationFinder x : Stages.all()) {
            String before = Calls.picture(x);
            for (int wrong : Numbers.outside(0, 3)) {
                DUE.is("declare(" + wrong + ", 2)", x.declare(wrong, 2), RelationFinder.ERR_ARG);
                DUE.is("declare(0, " + wrong + ")", x.declare(0, wrong), RelationFinder.ERR_ARG);
                DUE.is("all getters after it", Calls.picture(x), before);
            }
            if (x.tokenCount() > 0) {
                DUE.is("declare(0, 1)", x.declare(0, 1), RelationFinder.ERR_BUSY);
                DUE.is("declare(0, 2)", x.declare(0, 2), RelationFinder.ERR_BUSY);
                DUE.is("all getters after ERR_BUSY", Calls.picture(x), before);
            }
        }
    }

    private static void checkAccepted() {
        DUE.sentence("When accepted [..], the relation has the given arity [..] and the answer is 0.");
        for (int r = 1; r <= 4; r++) {
            for (int rel = 0; rel < r; rel++) {
                RelationFinder x = new RelationFinder(3, r);
                for (int arity : new int[] {2, 2, 1, 1, 2, 1}) {
                    DUE.is("declare(" + rel + ", " + arity + ")", x.declare(rel, arity), 0);
                    DUE.is("arityOf(" + rel + ")", x.arityOf(rel), arity);
                }
            }
        }
    }

    private static void checkUnchangedArity() {
        DUE.sentence("When accepted (also when the arity is unchanged) [..] all of its tuples [..] are FREE");
        for (int arity = 1; arity <= 2; arity++) {
            for (int mode = 1; mode <= 2; mode++) {
                RelationFinder x = new RelationFinder(4, 1);
                x.declare(0, arity);
                Words.boundAll(x, 0, mode);
                DUE.is("freeCount()", x.freeCount(), 0);
                DUE.is("declare(0, " + arity + ") again", x.declare(0, arity), 0);
                DUE.is("freeCount() after it", x.freeCount(), arity == 1 ? 4 : 16);
            }
        }
    }

    private static void checkAllTuplesAreFree() {
        DUE.sentence("all of its tuples (N of them if unary, N*N if binary) are FREE");
        for (int n = 1; n <= 4; n++) {
            for (int from = 1; from <= 2; from++) {
                for (int to = 1; to <= 2; to++) {
                    for (int mode = 1; mode <= 2; mode++) {
                        RelationFinder x = new RelationFinder(n, 1);
                        x.declare(0, from);
                        Words.boundAll(x, 0, mode);
                        x.declare(0, to);
                        String after = " after arity " + from + " became " + to + " over " + n;
                        DUE.is("freeCount()" + after, x.freeCount(), to == 1 ? n : n * n);
                        checkFree(x, n, to, after);
                    }
                }
            }
        }
    }

    private static void checkFree(RelationFinder x, int n, int arity, String after) {
        for (int a = 0; a < n; a++) {
            for (int b = 0; b < n; b++) {
                int want = arity == 1 && b > 0 ? -1 : RelationFinder.FREE;
                DUE.is("boundOf(0, " + a + ", " + b + ")" + after, x.boundOf(0, a, b), want);
            }
        }
    }

    /** Tokens refuse every declare after a solve, so an accepted one comes after clearFormula, and meets NOT_SOLVED. */
    private static void checkResultIsForgotten() {
        DUE.sentence("status becomes NOT_SOLVED, the instance is forgotten (declare)");
        for (RelationFinder x : new RelationFinder[] {Stages.bounded(), Stages.sat(), Stages.unsat()}) {
            x.clearFormula();
            x.declare(0, 1);
            DUE.is("status()", x.status(), RelationFinder.NOT_SOLVED);
            DUE.is("has(0, 0, 0)", x.has(0, 0, 0), -1);
            DUE.is("instanceSize(1)", x.instanceSize(1), -1);
        }
    }

    private static void checkOthersStay() {
        DUE.sentence("Arities and bound modes of every other relation, the tokens and the stack do not change.");
        for (int rel = 0; rel < 4; rel++) {
            for (int arity = 1; arity <= 2; arity++) {
                RelationFinder x = fourRelations();
                int free = x.freeCount();
                int freeOfOthers = 0;
                x.declare(rel, arity);
                for (int other = 0; other < 4; other++) {
                    if (other != rel) {
                        DUE.is("arityOf(" + other + ")", x.arityOf(other), 1 + other % 2);
                        freeOfOthers += checkModesStay(x, other);
                    }
                }
                DUE.is("freeCount(), once " + free, x.freeCount(), freeOfOthers + (arity == 1 ? 3 : 9));
                DUE.is("tokenCount()", x.tokenCount(), 0);
                DUE.is("depth()", x.depth(), 0);
            }
        }
    }

    private static int modeOf(int rel, int a, int b) {
        return (rel + a + 2 * b) % 3;
    }

    private static RelationFinder fourRelations() {
        RelationFinder x = new RelationFinder(3, 4);
        for (int rel = 0; rel < 4; rel++) {
            x.declare(rel, 1 + rel % 2);
        }
        for (int rel = 0; rel < 4; rel++) {
            for (int a = 0; a < 3; a++) {
                for (int b = 0; b < (rel % 2 == 0 ? 1 : 3); b++) {
                    x.bound(rel, a, b, modeOf(rel, a, b));
                }
            }
        }
        return x;
    }

    /** Answers how many of the relation's tuples are due to be FREE. */
    private static int checkModesStay(RelationFinder x, int rel) {
        int free = 0;
        for (int a = 0; a < 3; a++) {
            for (int b = 0; b < (rel % 2 == 0 ? 1 : 3); b++) {
                DUE.is("boundOf(" + rel + ", " + a + ", " + b + ")", x.boundOf(rel, a, b), modeOf(rel, a, b));
                free += modeOf(rel, a, b) == RelationFinder.FREE ? 1 : 0;
            }
        }
        return free;
    }
}
