/** 'Not promised': what it does promise, sentence by sentence. */
public final class NotPromisedTest {
    private static final Due DUE = new Due("NotPromisedTest");

    // Every kind that ignores its arg, in one complete formula, and a model of it that is not the first assignment.
    private static final String FORMULA = "r0 univ inter v0 union v0 diff r1 join univ product transpose closure "
        + "iden in r0 one and v0 some not or r1 r1 eq implies r1 no not and exists0";

    public static void main(String[] args) {
        DUE.check(NotPromisedTest::checkArgLeavesNoTrace, NotPromisedTest::checkEveryAnswerIsExact);
        DUE.end();
    }

    private static int argOf(String word) {
        char last = word.charAt(word.length() - 1);
        return Character.isDigit(last) ? last - '0' : -1;
    }

    /** Also adds to the story all that the getters tell after each token. */
    private static RelationFinder fed(int ignored, StringBuilder story) {
        RelationFinder x = new RelationFinder(2, 2);
        x.declare(1, 2);
        for (String word : FORMULA.split(" ")) {
            int arg = argOf(word);
            DUE.is("add of " + word + " is accepted", x.add(Words.kindOf(word), arg < 0 ? ignored : arg) > 0, true);
            story.append(Calls.picture(x));
        }
        return x;
    }

    private static void checkArgLeavesNoTrace() {
        DUE.sentence("Any value of arg for kinds other than K_REL, K_VAR, K_ALL and K_EXISTS is ignored and leaves "
            + "no trace.");
        StringBuilder plainStory = new StringBuilder();
        RelationFinder plain = fed(0, plainStory);
        int answer = plain.solve();
        String solved = Calls.picture(plain);
        DUE.is("solve() with arg 0", answer, RelationFinder.SAT);
        for (int arg : Numbers.ALL) {
            StringBuilder story = new StringBuilder();
            RelationFinder x = fed(arg, story);
            DUE.is("after each token, the getters tell the same with arg " + arg, story.compareTo(plainStory), 0);
            DUE.is("solve() with arg " + arg, x.solve(), answer);
            DUE.is("all getters after solve() with arg " + arg, Calls.picture(x), solved);
        }
    }

    /** The longest search that there can be: 4096 assignments, three variables, 32 tokens, no model but the last. */
    private static void checkEveryAnswerIsExact() {
        DUE.sentence("provided every answer is exactly the one fixed above");
        RelationFinder x = new RelationFinder(4, 3);
        String each = "v0 r0 in v1 r1 in and v2 r2 in and all0 all1 all2";
        int words = each.split(" ").length;
        DUE.is("solve()", Words.solve(x, each + " not".repeat(32 - words - (32 - words) % 2)), RelationFinder.SAT);
        for (int rel = 0; rel < 3; rel++) {
            DUE.is("instanceSize(" + rel + ")", x.instanceSize(rel), 4);
        }
        for (int i = 0; i < 12; i++) {
            x.bound(i / 4, i % 4, 0, RelationFinder.EXCLUDE);
            DUE.is("solve() without tuple " + i, x.solve(), RelationFinder.UNSAT);
            x.bound(i / 4, i % 4, 0, RelationFinder.FREE);
        }
    }
}
