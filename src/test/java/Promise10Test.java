/** Promise 10, sentence by sentence: tokenCount and token. */
public final class Promise10Test {
    private static final Due DUE = new Due("Promise10Test");

    public static void main(String[] args) {
        DUE.check(Promise10Test::checkCount, Promise10Test::checkCountSinceClear,
            Promise10Test::checkCountOfAcceptedAlone, Promise10Test::checkToken, Promise10Test::checkOutOfRange,
            Promise10Test::checkOldTokens, Promise10Test::checkChangesNothing);
        DUE.end();
    }

    private static void checkCount() {
        DUE.sentence("`tokenCount()` answers the number of accepted tokens since the start [..], in 0..MAX_TOKENS.");
        RelationFinder x = new RelationFinder(2, 1);
        DUE.is("tokenCount()", x.tokenCount(), 0);
        for (int i = 1; i <= 40; i++) {
            x.add(i % 2 == 1 ? RelationFinder.K_UNIV : RelationFinder.K_SOME, 0);
            DUE.is("tokenCount() after " + i + " calls", x.tokenCount(), Math.min(i, 32));
        }
    }

    private static void checkCountSinceClear() {
        DUE.sentence("`tokenCount()` answers the number of accepted tokens since [..] the last clearFormula()");
        for (int before = 0; before <= 32; before++) {
            RelationFinder x = new RelationFinder(2, 1);
            for (int i = 0; i < before; i++) {
                x.add(RelationFinder.K_UNIV, 0);
            }
            x.clearFormula();
            DUE.is("tokenCount() after clearFormula", x.tokenCount(), 0);
            x.add(RelationFinder.K_UNIV, 0);
            DUE.is("tokenCount() after one more", x.tokenCount(), 1);
        }
    }

    private static void checkCountOfAcceptedAlone() {
        DUE.sentence("`tokenCount()` answers the number of accepted tokens (refused ones do not count)");
        RelationFinder x = new RelationFinder(2, 1);
        x.add(RelationFinder.K_UNIV, 0);
        int[][] refused = {{0, 0}, {23, 0}, {1, 1}, {1, -1}, {2, 3}, {21, 3}, {22, -1}, {5, 0}, {10, 0}, {17, 0}};
        for (int[] token : refused) {
            DUE.is("add(" + token[0] + ", " + token[1] + ") is refused", x.add(token[0], token[1]) < 0, true);
            DUE.is("tokenCount()", x.tokenCount(), 1);
        }
    }

    private static void checkToken() {
        DUE.sentence("`token(i)` answers kind * 16 + stored arg for token i (0 = first fed)");
        RelationFinder x = new RelationFinder(2, 4);
        int[] want = {16, 17, 18, 19, 32, 33, 34, 48, 64};
        Words.feed(x, "r0 r1 r2 r3 v0 v1 v2 univ iden");
        for (int i = 0; i < want.length; i++) {
            DUE.is("token(" + i + ")", x.token(i), want[i]);
        }
        RelationFinder y = new RelationFinder(2, 1);
        String words = "r0 v0 union v1 inter v2 diff univ product iden join transpose closure some univ no and univ "
            + "one or univ univ in implies iden iden eq all0 and exists1 not exists2";
        Words.feed(y, words);
        int i = 0;
        for (String word : words.split(" ")) {
            int arg = Character.isDigit(word.charAt(word.length() - 1)) ? word.charAt(word.length() - 1) - '0' : 0;
            DUE.is("token(" + i + "), " + word, y.token(i), Words.kindOf(word) * 16 + arg);
            i++;
        }
        DUE.is("token(" + i + ")", y.token(i), -1);
        DUE.is("the greatest, exists2", y.token(i - 1), 354);
    }

    private static void checkOutOfRange() {
        DUE.sentence("or -1 if i < 0 or i >= tokenCount()");
        for (int tokens = 0; tokens <= 32; tokens++) {
            RelationFinder x = new RelationFinder(2, 1);
            for (int i = 0; i < tokens; i++) {
                x.add(RelationFinder.K_IDEN, 0);
            }
            for (int i : Numbers.outside(0, tokens - 1)) {
                DUE.is("token(" + i + ") of " + tokens, x.token(i), -1);
            }
            if (tokens > 0) {
                DUE.is("token(0) of " + tokens, x.token(0), 64);
                DUE.is("token(" + (tokens - 1) + ") of " + tokens, x.token(tokens - 1), 64);
            }
        }
    }

    private static void checkOldTokens() {
        DUE.sentence("or -1 if i < 0 or i >= tokenCount() (tokens from before clearFormula)");
        RelationFinder x = Stages.fullStack();
        x.clearFormula();
        Words.feed(x, "iden r1");
        DUE.is("token(0)", x.token(0), 64);
        DUE.is("token(1)", x.token(1), 17);
        for (int i = 2; i <= 32; i++) {
            DUE.is("token(" + i + ")", x.token(i), -1);
        }
    }

    private static void checkChangesNothing() {
        DUE.sentence("Neither changes anything. (tokenCount and token)");
        Trace.none(DUE, "tokenCount()", RelationFinder::tokenCount);
        for (int i : Numbers.ALL) {
            Trace.none(DUE, "token(" + i + ")", x -> x.token(i));
        }
    }
}
