/** Promises 8, 10 and 11: add, tokenCount and token, depth and stackEntry. */
public final class AddTest {
    private static final Due DUE = new Due("AddTest");

    // The operands that the semantics table allows: L and R are letters of F, U, B; then the result's letter.
    private static final String[] TWO = {
        "5UUU", "5BBB", "6UUU", "6BBB", "7UUU", "7BBB", "8UBU", "8BUU", "8BBB", "9UUB",
        "12UUF", "12BBF", "13UUF", "13BBF", "18FFF", "19FFF", "20FFF"
    };
    private static final String[] ONE = {
        "10BB", "11BB", "14UF", "14BF", "15UF", "15BF", "16UF", "16BF", "17FF", "21FF", "22FF"
    };
    private static final String LETTERS = "FUB";

    public static void main(String[] args) {
        checkLeaves();
        for (int kind = 5; kind <= 22; kind++) {
            checkOperands(kind);
            checkShortStack(kind);
        }
        checkKinds();
        checkArgs();
        checkIgnoredArgs();
        checkFull();
        checkOrderOfConditions();
        checkMasks();
        checkEveryAcceptedTokenForgets();
        checkTokenAndEntryRanges();
        DUE.end();
    }

    private static int popsOf(int kind) {
        if (kind <= 4) {
            return 0;
        }
        return kind == 10 || kind == 11 || kind >= 14 && kind <= 17 || kind >= 21 ? 1 : 2;
    }

    /** Pushes an entry of the given type whose mask is the given one (for a mask of one bit or none). */
    private static void push(RelationFinder x, int type, int mask) {
        if (mask == 0) {
            Calls.feed(x, type == 2 ? 4 : 3, 0);
        } else {
            int variable = mask == 1 ? 0 : mask == 2 ? 1 : 2;
            Calls.feed(x, 2, variable);
            if (type == 2) {
                Calls.feed(x, 2, variable, 9, 0);
            }
        }
        if (type == 0) {
            Calls.feed(x, 14, 0);
        }
    }

    private static int allowedResult(int kind, String operands) {
        for (String row : popsOf(kind) == 1 ? ONE : TWO) {
            if (row.startsWith(kind + operands) && row.length() == (kind + operands).length() + 1) {
                return LETTERS.indexOf(row.charAt(row.length() - 1));
            }
        }
        return -1;
    }

    private static void checkLeaves() {
        RelationFinder x = new RelationFinder(3, 3);
        x.declare(1, 2);
        int[][] leaves = {{1, 0, 1}, {1, 1, 2}, {1, 2, 1}, {2, 0, 5}, {2, 1, 9}, {2, 2, 17}, {3, 0, 1}, {4, 0, 2}};
        for (int i = 0; i < leaves.length; i++) {
            String call = "add(" + leaves[i][0] + ", " + leaves[i][1] + ")";
            DUE.is(call, x.add(leaves[i][0], leaves[i][1]), i + 1);
            DUE.is("depth()", x.depth(), i + 1);
            DUE.is("tokenCount()", x.tokenCount(), i + 1);
            DUE.is("stackEntry after " + call, x.stackEntry(i), leaves[i][2]);
            DUE.is("token after " + call, x.token(i), leaves[i][0] * 16 + leaves[i][1]);
        }
    }

    /** Every combination of operand types, with an entry below that must stay. */
    private static void checkOperands(int kind) {
        for (int left = 0; left < 3; left++) {
            for (int right = 0; right < 3; right++) {
                RelationFinder x = new RelationFinder(2, 1);
                push(x, 2, 4);
                push(x, left, 1);
                push(x, right, 2);
                boolean one = popsOf(kind) == 1;
                String operands = one ? "" + LETTERS.charAt(right) : "" + LETTERS.charAt(left) + LETTERS.charAt(right);
                int result = allowedResult(kind, operands);
                String call = "add(" + kind + ") on " + operands;
                String before = Calls.picture(x);
                int tokens = x.tokenCount();
                if (result < 0) {
                    DUE.is(call, x.add(kind, 2), RelationFinder.ERR_TYPE);
                    DUE.is("refused " + call, Calls.picture(x), before);
                    continue;
                }
                int depth = one ? 3 : 2;
                DUE.is(call, x.add(kind, 2), depth);
                DUE.is("depth after " + call, x.depth(), depth);
                DUE.is("top after " + call, x.stackEntry(depth - 1), result + 4 * (one ? 2 : 3));
                DUE.is("above the top after " + call, x.stackEntry(depth), -1);
                DUE.is("below after " + call, x.stackEntry(0), 2 + 4 * 4);
                DUE.is("tokenCount after " + call, x.tokenCount(), tokens + 1);
                DUE.is("token after " + call, x.token(tokens), kind * 16 + (kind >= 21 ? 2 : 0));
            }
        }
    }

    private static void checkShortStack(int kind) {
        for (int type = 0; type < 3; type++) {
            for (int entries = 0; entries < popsOf(kind); entries++) {
                RelationFinder x = new RelationFinder(2, 1);
                for (int i = 0; i < entries; i++) {
                    push(x, type, 0);
                }
                String before = Calls.picture(x);
                DUE.is("add(" + kind + ") over " + entries, x.add(kind, 1), RelationFinder.ERR_STACK);
                DUE.is("refused add(" + kind + ")", Calls.picture(x), before);
            }
        }
    }

    private static void checkKinds() {
        RelationFinder x = new RelationFinder(2, 1);
        Calls.feed(x, 3, 0, 14, 0, 3, 0, 14, 0);
        String before = Calls.picture(x);
        int[] wrong = {Integer.MIN_VALUE, -22, -1, 0, 23, 24, 25, 26, 32, 33, 256 + 3, Integer.MAX_VALUE};
        for (int kind : wrong) {
            for (int arg : Calls.EDGES) {
                DUE.is("add(" + kind + ", " + arg + ")", x.add(kind, arg), RelationFinder.ERR_KIND);
            }
        }
        DUE.is("refused kinds", Calls.picture(x), before);
    }

    private static void checkArgs() {
        for (int relations = 1; relations <= 4; relations++) {
            for (int arg : Calls.EDGES) {
                for (int kind : new int[] {1, 2, 21, 22}) {
                    RelationFinder x = new RelationFinder(2, relations);
                    Calls.feed(x, 3, 0, 14, 0);
                    String before = Calls.picture(x);
                    String call = "add(" + kind + ", " + arg + ") with " + relations + " relations";
                    if (arg >= 0 && arg < (kind == 1 ? relations : 3)) {
                        DUE.is(call, x.add(kind, arg), kind >= 21 ? 1 : 2);
                        DUE.is("token after " + call, x.token(2), kind * 16 + arg);
                    } else {
                        DUE.is(call, x.add(kind, arg), RelationFinder.ERR_ARG);
                        DUE.is("refused " + call, Calls.picture(x), before);
                    }
                }
            }
        }
    }

    private static void checkIgnoredArgs() {
        String want = fedWithArg(0);
        for (int arg : Calls.EDGES) {
            DUE.is("tokens that ignore arg " + arg, fedWithArg(arg), want);
        }
    }

    private static String fedWithArg(int arg) {
        RelationFinder x = new RelationFinder(2, 2);
        x.declare(1, 2);
        Calls.feed(x, 3, arg, 1, 0, 5, arg, 3, arg, 6, arg, 1, 0, 7, arg, 1, 1, 8, arg, 3, arg, 9, arg);
        Calls.feed(x, 10, arg, 11, arg, 4, arg, 12, arg, 1, 0, 14, arg, 18, arg, 4, arg, 4, arg, 13, arg);
        Calls.feed(x, 19, arg, 3, arg, 16, arg, 20, arg, 3, arg, 15, arg, 17, arg, 18, arg);
        x.solve();
        return Calls.picture(x);
    }

    private static void checkFull() {
        RelationFinder x = new RelationFinder(1, 1);
        Calls.feed(x, 3, 0, 14, 0);
        for (int i = 2; i < 32; i++) {
            DUE.is("token number " + i, x.add(17, 0), 1);
        }
        x.solve();
        String before = Calls.picture(x);
        int[] kinds = {0, 1, 3, 17, 18, 21, 23, -1};
        for (int kind : kinds) {
            DUE.is("add(" + kind + ", 99) when full", x.add(kind, 99), RelationFinder.ERR_FULL);
        }
        DUE.is("adds when full", Calls.picture(x), before);
        x.clearFormula();
        DUE.is("add after clearFormula", x.add(3, 0), 1);
    }

    private static void checkOrderOfConditions() {
        RelationFinder x = new RelationFinder(1, 1);
        DUE.is("ERR_ARG before ERR_STACK", x.add(21, 3), RelationFinder.ERR_ARG);
        DUE.is("ERR_STACK with a good arg", x.add(21, 2), RelationFinder.ERR_STACK);
        DUE.is("ERR_KIND before ERR_STACK", x.add(23, 0), RelationFinder.ERR_KIND);
        Calls.feed(x, 3, 0);
        DUE.is("ERR_ARG before ERR_TYPE", x.add(22, -1), RelationFinder.ERR_ARG);
        DUE.is("ERR_TYPE with a good arg", x.add(22, 0), RelationFinder.ERR_TYPE);
        DUE.is("ERR_STACK before ERR_TYPE", x.add(18, 0), RelationFinder.ERR_STACK);
    }

    private static void checkMasks() {
        RelationFinder x = new RelationFinder(2, 1);
        Calls.feed(x, 2, 0, 2, 1, 5, 0, 2, 2, 6, 0, 14, 0);
        DUE.is("stackEntry(0) with three variables", x.stackEntry(0), 4 * 7);
        Calls.feed(x, 21, 1);
        DUE.is("stackEntry(0) after ALL 1", x.stackEntry(0), 4 * 5);
        Calls.feed(x, 22, 1);
        DUE.is("stackEntry(0) after a second quantifier on 1", x.stackEntry(0), 4 * 5);
        Calls.feed(x, 2, 1, 14, 0, 18, 0);
        DUE.is("stackEntry(0) with 1 free again", x.stackEntry(0), 4 * 7);
        Calls.feed(x, 22, 0, 21, 2);
        DUE.is("stackEntry(0) after EXISTS 0 and ALL 2", x.stackEntry(0), 4 * 2);
        Calls.feed(x, 21, 1, 21, 1);
        DUE.is("stackEntry(0) when closed", x.stackEntry(0), 0);
    }

    private static void checkEveryAcceptedTokenForgets() {
        for (int kind = 1; kind <= 22; kind++) {
            RelationFinder x = new RelationFinder(2, 1);
            Calls.feed(x, 3, 0, 14, 0);
            DUE.is("solve()", x.solve(), RelationFinder.SAT);
            boolean accepted = x.add(kind, 0) > 0;
            DUE.is("accepted add(" + kind + ")", accepted, kind <= 4 || kind == 17 || kind >= 21);
            DUE.is("status() after it", x.status(), accepted ? RelationFinder.NOT_SOLVED : RelationFinder.SAT);
            DUE.is("has(0, 0, 0) after it", x.has(0, 0, 0), accepted ? -1 : 0);
        }
    }

    private static void checkTokenAndEntryRanges() {
        RelationFinder x = new RelationFinder(2, 1);
        Calls.feed(x, 3, 0, 4, 0, 2, 2);
        String before = Calls.picture(x);
        int[] tokens = {48, 64, 34};
        int[] entries = {1, 2, 17};
        for (int i : Calls.EDGES) {
            DUE.is("token(" + i + ")", x.token(i), i >= 0 && i < 3 ? tokens[i] : -1);
            DUE.is("stackEntry(" + i + ")", x.stackEntry(i), i >= 0 && i < 3 ? entries[i] : -1);
        }
        DUE.is("token and stackEntry", Calls.picture(x), before);
        Calls.feed(x, 3, 0, 6, 0);
        DUE.is("token(4)", x.token(4), 96);
        DUE.is("stackEntry(3) after a pop", x.stackEntry(3), -1);
    }
}
