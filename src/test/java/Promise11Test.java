/** Promise 11, sentence by sentence: depth and stackEntry. */
public final class Promise11Test {
    private static final Due DUE = new Due("Promise11Test");

    public static void main(String[] args) {
        DUE.check(Promise11Test::checkDepth, Promise11Test::checkTypesAndMasks, Promise11Test::checkBottomAndTop,
            Promise11Test::checkOutOfRange, Promise11Test::checkPoppedEntries, Promise11Test::checkChangesNothing);
        DUE.end();
    }

    private static void checkDepth() {
        DUE.sentence("`depth()` answers the number of stack entries.");
        RelationFinder x = new RelationFinder(2, 1);
        DUE.is("depth() at the start", x.depth(), 0);
        for (int i = 1; i <= 32; i++) {
            x.add(RelationFinder.K_UNIV, 0);
            DUE.is("depth() after " + i + " leaves", x.depth(), i);
        }
        x.add(RelationFinder.K_UNIV, 0);
        DUE.is("depth() when full", x.depth(), 32);
        x.clearFormula();
        DUE.is("depth() after clearFormula", x.depth(), 0);
        for (int i = 1; i <= 16; i++) {
            x.add(RelationFinder.K_UNIV, 0);
        }
        for (int i = 15; i >= 1; i--) {
            x.add(RelationFinder.K_UNION, 0);
            DUE.is("depth() after a union", x.depth(), i);
        }
        x.add(RelationFinder.K_UNION, 0);
        DUE.is("depth() after a refused union", x.depth(), 1);
    }

    private static void checkTypesAndMasks() {
        DUE.sentence("`stackEntry(i)` answers type + 4 * mask for entry i [..] where type is one of E_FORMULA, "
            + "E_UNARY, E_BINARY and mask is in 0..7");
        for (int type = 0; type <= 2; type++) {
            for (int mask = 0; mask <= 7; mask++) {
                RelationFinder x = new RelationFinder(2, 1);
                Words.feed(x, Words.entry(type, mask));
                DUE.is("stackEntry(0) of type " + type + ", mask " + mask, x.stackEntry(0), type + 4 * mask);
            }
        }
    }

    private static void checkBottomAndTop() {
        DUE.sentence("for entry i (0 = bottom, depth()-1 = top)");
        RelationFinder x = new RelationFinder(2, 1);
        Words.feed(x, "univ iden v2 v1 some v0 univ product");
        int[] want = {1, 2, 17, 8, 6};
        for (int i = 0; i < want.length; i++) {
            DUE.is("stackEntry(" + i + ")", x.stackEntry(i), want[i]);
        }
        RelationFinder full = Stages.fullStack();
        DUE.is("stackEntry(0) of 32", full.stackEntry(0), 1);
        DUE.is("stackEntry(31) of 32", full.stackEntry(31), 17);
    }

    private static void checkOutOfRange() {
        DUE.sentence("it answers -1 if i < 0 or i >= depth()");
        for (int depth = 0; depth <= 32; depth++) {
            RelationFinder x = new RelationFinder(2, 1);
            for (int i = 0; i < depth; i++) {
                x.add(RelationFinder.K_IDEN, 0);
            }
            for (int i : Numbers.outside(0, depth - 1)) {
                DUE.is("stackEntry(" + i + ") of " + depth, x.stackEntry(i), -1);
            }
            if (depth > 0) {
                DUE.is("stackEntry(0) of " + depth, x.stackEntry(0), 2);
                DUE.is("stackEntry(" + (depth - 1) + ") of " + depth, x.stackEntry(depth - 1), 2);
            }
        }
    }

    private static void checkPoppedEntries() {
        DUE.sentence("it answers -1 if i < 0 or i >= depth() (entries that were popped or cleared)");
        RelationFinder x = new RelationFinder(2, 1);
        Words.feed(x, "v0 v1 v2");
        x.add(RelationFinder.K_UNION, 0);
        DUE.is("stackEntry(1) after one union", x.stackEntry(1), 25);
        DUE.is("stackEntry(2) after one union", x.stackEntry(2), -1);
        x.add(RelationFinder.K_UNION, 0);
        DUE.is("stackEntry(0) after two unions", x.stackEntry(0), 29);
        DUE.is("stackEntry(1) after two unions", x.stackEntry(1), -1);
        x.clearFormula();
        DUE.is("stackEntry(0) after clearFormula", x.stackEntry(0), -1);
        Words.feed(x, "iden");
        DUE.is("stackEntry(0) anew", x.stackEntry(0), 2);
        DUE.is("stackEntry(1) anew", x.stackEntry(1), -1);
    }

    private static void checkChangesNothing() {
        DUE.sentence("Neither changes anything. (depth and stackEntry)");
        Trace.none(DUE, "depth()", RelationFinder::depth);
        for (int i : Numbers.ALL) {
            Trace.none(DUE, "stackEntry(" + i + ")", x -> x.stackEntry(i));
        }
    }
}
