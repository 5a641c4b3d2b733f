/** Promise 5, sentence by sentence: bound. */
public final class Promise05Test {
    private static final Due DUE = new Due("Promise05Test");

    // What Stages.fed("r0 r1 v2") has.
    private static final int[][][] MODES = {{{1}, {0}, {2}}, {{0, 0, 2}, {0, 0, 0}, {0, 1, 0}}};
    private static final int[] TOKENS = {16, 17, 34, -1};
    private static final int[] ENTRIES = {1, 2, 17, -1};

    public static void main(String[] args) {
        DUE.check(Promise05Test::checkWrongRelation, Promise05Test::checkWrongFirstAtom,
            Promise05Test::checkWrongSecondOfUnary, Promise05Test::checkWrongSecondOfBinary,
            Promise05Test::checkWrongMode, Promise05Test::checkSeveralWrong,
            Promise05Test::checkRefusalChangesNothing, Promise05Test::checkAcceptedAtAnyTime,
            Promise05Test::checkModeIsSet, Promise05Test::checkResultIsForgotten, Promise05Test::checkAnswer,
            Promise05Test::checkOthersStay);
        DUE.end();
    }

    private static void refused(RelationFinder x, int rel, int a, int b, int mode) {
        String call = "bound(" + rel + ", " + a + ", " + b + ", " + mode + ")";
        DUE.is(call, x.bound(rel, a, b, mode), RelationFinder.ERR_ARG);
    }

    private static RelationFinder made(int n, int r, int arity) {
        RelationFinder x = new RelationFinder(n, r);
        for (int rel = 0; rel < r; rel++) {
            x.declare(rel, arity);
        }
        return x;
    }

    private static void checkWrongRelation() {
        DUE.sentence("1. rel < 0 or rel >= R (bound)");
        for (int r = 1; r <= 4; r++) {
            for (int arity = 1; arity <= 2; arity++) {
                RelationFinder x = made(4, r, arity);
                for (int rel : Numbers.outside(0, r - 1)) {
                    for (int mode = 0; mode <= 2; mode++) {
                        refused(x, rel, 0, 0, mode);
                        refused(x, rel, 3, 0, mode);
                    }
                }
                DUE.is("freeCount()", x.freeCount(), r * (arity == 1 ? 4 : 16));
                DUE.is("bound(R - 1, 3, 0, EXCLUDE)", x.bound(r - 1, 3, 0, RelationFinder.EXCLUDE),
                    r * (arity == 1 ? 4 : 16) - 1);
            }
        }
    }

    private static void checkWrongFirstAtom() {
        DUE.sentence("2. a < 0 or a >= N (bound)");
        for (int n = 1; n <= 4; n++) {
            for (int arity = 1; arity <= 2; arity++) {
                RelationFinder x = made(n, 2, arity);
                String before = Calls.picture(x);
                for (int a : Numbers.outside(0, n - 1)) {
                    for (int b = 0; b < (arity == 1 ? 1 : n); b++) {
                        refused(x, 0, a, b, RelationFinder.REQUIRE);
                        refused(x, 1, a, b, RelationFinder.EXCLUDE);
                    }
                }
                DUE.is("all getters", Calls.picture(x), before);
                DUE.is("bound(1, N - 1, 0, REQUIRE)", x.bound(1, n - 1, 0, RelationFinder.REQUIRE), x.freeCount());
                DUE.is("boundOf(1, N - 1, 0)", x.boundOf(1, n - 1, 0), RelationFinder.REQUIRE);
            }
        }
    }

    private static void checkWrongSecondOfUnary() {
        DUE.sentence("3. rel unary and b != 0 (bound)");
        for (int n = 1; n <= 4; n++) {
            RelationFinder x = made(n, 2, 1);
            String before = Calls.picture(x);
            for (int b : Numbers.outside(0, 0)) {
                for (int a = 0; a < n; a++) {
                    refused(x, 0, a, b, RelationFinder.REQUIRE);
                    refused(x, 1, a, b, RelationFinder.EXCLUDE);
                }
            }
            DUE.is("all getters", Calls.picture(x), before);
        }
    }

    /** With a * N + b alone, (0, N) would be (1, 0), and (1, -1) would be (0, N - 1). */
    private static void checkWrongSecondOfBinary() {
        DUE.sentence("4. rel binary and (b < 0 or b >= N) (bound)");
        for (int n = 1; n <= 4; n++) {
            RelationFinder x = made(n, 2, 2);
            String before = Calls.picture(x);
            for (int b : Numbers.outside(0, n - 1)) {
                for (int a = 0; a < n; a++) {
                    refused(x, 0, a, b, RelationFinder.REQUIRE);
                    refused(x, 1, a, b, RelationFinder.EXCLUDE);
                }
            }
            DUE.is("all getters", Calls.picture(x), before);
            DUE.is("bound(1, 0, N - 1, REQUIRE)", x.bound(1, 0, n - 1, RelationFinder.REQUIRE), 2 * n * n - 1);
        }
    }

    private static void checkWrongMode() {
        DUE.sentence("5. mode not FREE, REQUIRE or EXCLUDE (bound)");
        for (int now = 0; now <= 2; now++) {
            for (int arity = 1; arity <= 2; arity++) {
                RelationFinder x = made(2, 1, arity);
                x.bound(0, 1, 0, now);
                for (int mode : Numbers.outside(0, 2)) {
                    refused(x, 0, 1, 0, mode);
                    DUE.is("boundOf(0, 1, 0)", x.boundOf(0, 1, 0), now);
                }
            }
        }
    }

    private static void checkSeveralWrong() {
        DUE.sentence("The conditions are examined in this order, each refusing with ERR_ARG");
        int[] wrong = {Integer.MIN_VALUE, -1, 4, Integer.MAX_VALUE};
        for (int i = 0; i < 4; i++) {
            for (int j = 0; j < 4; j++) {
                RelationFinder x = made(4, 4, 1 + i % 2);
                refused(x, wrong[i], wrong[j], 0, 0);
                refused(x, wrong[i], 0, wrong[j], 0);
                refused(x, wrong[i], 0, 0, wrong[j]);
                refused(x, 0, wrong[i], wrong[j], 0);
                refused(x, 0, wrong[i], 0, wrong[j]);
                refused(x, 0, 0, wrong[i], wrong[j]);
                refused(x, wrong[i], wrong[j], wrong[i], wrong[j]);
            }
        }
    }

    private static void checkRefusalChangesNothing() {
        DUE.sentence("When refused, nothing changes. (bound)");
        for (RelationFinder x : Stages.all()) {
            String before = Calls.picture(x);
            for (int wrong : Numbers.outside(0, 3)) {
                refused(x, wrong, 0, 0, RelationFinder.REQUIRE);
                refused(x, 0, wrong, 0, RelationFinder.EXCLUDE);
                refused(x, 0, 0, wrong, RelationFinder.REQUIRE);
                refused(x, 0, 0, 0, wrong);
                DUE.is("all getters after refused bounds", Calls.picture(x), before);
            }
        }
    }

    private static void checkAcceptedAtAnyTime() {
        DUE.sentence("The call is accepted at any time, also while tokens exist.");
        for (RelationFinder x : Stages.all()) {
            for (int mode : new int[] {0, 1, 2, 1, 0}) {
                x.solve();
                int answer = x.bound(0, 0, 0, mode);
                DUE.is("bound(0, 0, 0, " + mode + ")", answer, x.freeCount());
                DUE.is("boundOf(0, 0, 0)", x.boundOf(0, 0, 0), mode);
            }
        }
    }

    private static void checkModeIsSet() {
        DUE.sentence("When accepted, the tuple's mode is mode");
        for (int arity = 1; arity <= 2; arity++) {
            for (int from = 0; from <= 2; from++) {
                for (int to = 0; to <= 2; to++) {
                    RelationFinder x = made(4, 4, arity);
                    int b = arity == 1 ? 0 : 3;
                    x.bound(3, 3, b, from);
                    DUE.is("bound from " + from + " to " + to, x.bound(3, 3, b, to),
                        (arity == 1 ? 16 : 64) - (to == RelationFinder.FREE ? 0 : 1));
                    DUE.is("boundOf after " + from + " became " + to, x.boundOf(3, 3, b), to);
                }
            }
        }
    }

    private static void checkResultIsForgotten() {
        DUE.sentence("status becomes NOT_SOLVED, the instance is forgotten (bound)");
        for (int mode = 0; mode <= 2; mode++) {
            for (RelationFinder x : new RelationFinder[] {Stages.sat(), Stages.unsat()}) {
                DUE.is("solved", x.status() != RelationFinder.NOT_SOLVED, true);
                x.bound(1, 1, 1, mode);
                DUE.is("status() after bound to " + mode, x.status(), RelationFinder.NOT_SOLVED);
                DUE.is("has(0, 0, 0)", x.has(0, 0, 0), -1);
                DUE.is("has(1, 1, 1)", x.has(1, 1, 1), -1);
                DUE.is("instanceSize(0)", x.instanceSize(0), -1);
            }
        }
    }

    private static void checkAnswer() {
        DUE.sentence("the answer is freeCount() after the change");
        for (int n = 1; n <= 4; n++) {
            for (int r = 1; r <= 4; r++) {
                for (int arity = 1; arity <= 2; arity++) {
                    walkToNoneAndBack(n, r, arity);
                }
            }
        }
    }

    /** From all FREE, at most 64, to none, and back. */
    private static void walkToNoneAndBack(int n, int r, int arity) {
        RelationFinder x = made(n, r, arity);
        int tuples = r * (arity == 1 ? n : n * n);
        int free = tuples;
        for (int mode : new int[] {RelationFinder.FREE, RelationFinder.REQUIRE, RelationFinder.EXCLUDE, 0}) {
            for (int i = 0; i < tuples; i++) {
                int rel = i % r;
                int a = i / r % n;
                int b = i / r / n;
                free += (mode == 0 ? 1 : 0) - (x.boundOf(rel, a, b) == 0 ? 1 : 0);
                DUE.is("bound(" + rel + ", " + a + ", " + b + ", " + mode + ")", x.bound(rel, a, b, mode), free);
                DUE.is("freeCount()", x.freeCount(), free);
            }
            DUE.is("freeCount() when all are " + mode, x.freeCount(), mode == RelationFinder.FREE ? tuples : 0);
        }
    }

    private static void checkOthersStay() {
        DUE.sentence("All other tuples' modes, all arities, the tokens and the stack do not change.");
        for (int rel = 0; rel < 2; rel++) {
            for (int a = 0; a < 3; a++) {
                for (int b = 0; b < (rel == 0 ? 1 : 3); b++) {
                    for (int mode = 0; mode <= 2; mode++) {
                        RelationFinder x = Stages.fed("r0 r1 v2");
                        int was = x.boundOf(rel, a, b);
                        String before = Calls.picture(x);
                        x.bound(rel, a, b, mode);
                        x.bound(rel, a, b, was);
                        DUE.is("there and back", Calls.picture(x), before);
                        x.bound(rel, a, b, mode);
                        checkRest(x, rel, a, b);
                    }
                }
            }
        }
    }

    /** All stays but the one tuple. */
    private static void checkRest(RelationFinder x, int rel, int a, int b) {
        for (int otherRel = 0; otherRel < 2; otherRel++) {
            DUE.is("arityOf(" + otherRel + ")", x.arityOf(otherRel), 1 + otherRel);
            for (int otherA = 0; otherA < 3; otherA++) {
                for (int otherB = 0; otherB < MODES[otherRel][otherA].length; otherB++) {
                    if (otherRel != rel || otherA != a || otherB != b) {
                        DUE.is("boundOf(" + otherRel + ", " + otherA + ", " + otherB + ")",
                            x.boundOf(otherRel, otherA, otherB), MODES[otherRel][otherA][otherB]);
                    }
                }
            }
        }
        for (int i = 0; i <= 3; i++) {
            DUE.is("token(" + i + ")", x.token(i), TOKENS[i]);
            DUE.is("stackEntry(" + i + ")", x.stackEntry(i), ENTRIES[i]);
        }
    }
}
