/** Promise 8, sentence by sentence: add. */
public final class Promise08Test {
    private static final Due DUE = new Due("Promise08Test");
    private static final int[] ARGS = {Integer.MIN_VALUE, -1, 0, 1, 2, 3, 4, Integer.MAX_VALUE};
    private static final String TYPES = "FUB";

    public static void main(String[] args) {
        DUE.check(Promise08Test::checkFull, Promise08Test::checkNotYetFull, Promise08Test::checkWrongKind,
            Promise08Test::checkWrongRelation, Promise08Test::checkWrongVariable, Promise08Test::checkIgnoredArg,
            Promise08Test::checkShortStack, Promise08Test::checkFormulaForExpression,
            Promise08Test::checkExpressionForFormula, Promise08Test::checkUnequalArities,
            Promise08Test::checkJoinOfUnaries, Promise08Test::checkProductOfBinary, Promise08Test::checkUnaryToTurn,
            Promise08Test::checkEveryOtherOperandIsAllowed, Promise08Test::checkFullComesFirst,
            Promise08Test::checkKindComesSecond, Promise08Test::checkArgComesThird,
            Promise08Test::checkStackComesFourth, Promise08Test::checkRefusalChangesNothing,
            Promise08Test::checkStoredArg, Promise08Test::checkPopsAndPushes, Promise08Test::checkArityOfThisMoment,
            Promise08Test::checkResultIsForgotten, Promise08Test::checkAnswer, Promise08Test::checkBoundsStay,
            Promise08Test::checkQuantifierClearsItsBit);
        DUE.end();
    }

    private static RelationFinder with(String words) {
        RelationFinder x = new RelationFinder(2, 2);
        x.declare(1, 2);
        if (!words.isEmpty()) {
            Words.feed(x, words);
        }
        return x;
    }

    /** Entries of the given types, F, U or B. */
    private static RelationFinder withEntries(String types) {
        RelationFinder x = with("");
        for (char type : types.toCharArray()) {
            Words.feed(x, Words.entry(TYPES.indexOf(type), 0));
        }
        return x;
    }

    private static void refused(RelationFinder x, int kind, int arg, int want) {
        String before = Calls.picture(x);
        DUE.is("add(" + kind + ", " + arg + ")", x.add(kind, arg), want);
        DUE.is("all getters after refused add(" + kind + ", " + arg + ")", Calls.picture(x), before);
    }

    private static void refusedOn(String types, String kinds) {
        for (String word : kinds.split(" ")) {
            refused(withEntries(types), Words.kindOf(word), 0, RelationFinder.ERR_TYPE);
        }
    }

    private static void checkFull() {
        DUE.sentence("1. tokenCount() == MAX_TOKENS -> ERR_FULL");
        RelationFinder[] full = {with("univ" + " univ".repeat(31)), with("univ some" + " not".repeat(30))};
        for (RelationFinder x : full) {
            for (int kind = 1; kind <= 22; kind++) {
                refused(x, kind, 0, RelationFinder.ERR_FULL);
            }
            DUE.is("tokenCount()", x.tokenCount(), 32);
            x.clearFormula();
            DUE.is("add(K_UNIV, 0) after clearFormula", x.add(RelationFinder.K_UNIV, 0), 1);
        }
    }

    private static void checkNotYetFull() {
        DUE.sentence("1. tokenCount() == MAX_TOKENS -> ERR_FULL (and not before; refused tokens do not count)");
        RelationFinder x = with("");
        for (int i = 1; i <= 32; i++) {
            x.add(0, 0);
            x.add(RelationFinder.K_REL, 2);
            x.add(RelationFinder.K_NOT, 0);
            DUE.is("add number " + i, x.add(RelationFinder.K_IDEN, 0), i);
        }
        DUE.is("add number 33", x.add(RelationFinder.K_IDEN, 0), RelationFinder.ERR_FULL);
        RelationFinder last = withEntries("F");
        while (last.tokenCount() < 31) {
            last.add(RelationFinder.K_NOT, 0);
        }
        DUE.is("the last token may be an operator", last.add(RelationFinder.K_ALL, 2), 1);
    }

    private static void checkWrongKind() {
        DUE.sentence("2. kind not in 1..22 -> ERR_KIND");
        for (int kind : Numbers.outside(1, 22)) {
            refused(with(""), kind, 0, RelationFinder.ERR_KIND);
            refused(withEntries("BBUUFF"), kind, 0, RelationFinder.ERR_KIND);
        }
        for (int kind : new int[] {1, 22}) {
            DUE.is("add(" + kind + ", 0)", withEntries("F").add(kind, 0) > 0, true);
        }
    }

    private static void checkWrongRelation() {
        DUE.sentence("3. K_REL with arg < 0 or arg >= R [..] -> ERR_ARG");
        for (int r = 1; r <= 4; r++) {
            RelationFinder x = new RelationFinder(2, r);
            for (int arg : Numbers.outside(0, r - 1)) {
                refused(x, RelationFinder.K_REL, arg, RelationFinder.ERR_ARG);
            }
            DUE.is("add(K_REL, 0)", x.add(RelationFinder.K_REL, 0), 1);
            DUE.is("add(K_REL, R - 1)", x.add(RelationFinder.K_REL, r - 1), 2);
        }
    }

    private static void checkWrongVariable() {
        DUE.sentence("3. [..] K_VAR, K_ALL, K_EXISTS with arg < 0 or arg >= MAX_VARS -> ERR_ARG");
        for (int r = 1; r <= 4; r++) {
            for (String word : new String[] {"v", "all", "exists"}) {
                RelationFinder x = new RelationFinder(2, r);
                Words.feed(x, "univ some");
                for (int arg : Numbers.outside(0, 2)) {
                    refused(x, Words.kindOf(word), arg, RelationFinder.ERR_ARG);
                }
                int depth = word.equals("v") ? 2 : 1;
                DUE.is("add(" + word + ", 2)", x.add(Words.kindOf(word), 2), depth);
            }
        }
    }

    private static void checkIgnoredArg() {
        DUE.sentence("3. [..] (arg is ignored by every other kind, whatever its value)");
        for (int kind = RelationFinder.K_UNIV; kind < RelationFinder.K_ALL; kind++) {
            String types = kind < RelationFinder.K_UNION ? "" : Refusals.allowedOperands(kind).trim().split(" ")[0];
            RelationFinder plain = withEntries(types);
            plain.add(kind, 0);
            String want = Calls.picture(plain);
            for (int arg : Numbers.ALL) {
                RelationFinder x = withEntries(types);
                DUE.is("add(" + kind + ", " + arg + ")", x.add(kind, arg), 1);
                DUE.is("all getters after add(" + kind + ", " + arg + ")", Calls.picture(x), want);
            }
        }
    }

    private static void checkShortStack() {
        DUE.sentence("4. the stack holds fewer entries than the kind pops -> ERR_STACK");
        String none = "r v univ iden";
        String one = "transpose closure some no one not all exists";
        String two = "union inter diff join product in eq and or implies";
        for (String word : none.split(" ")) {
            DUE.is("add(" + word + ") on nothing", with("").add(Words.kindOf(word), 0), 1);
        }
        for (String word : one.split(" ")) {
            refused(with(""), Words.kindOf(word), 0, RelationFinder.ERR_STACK);
        }
        for (String word : two.split(" ")) {
            refused(with(""), Words.kindOf(word), 0, RelationFinder.ERR_STACK);
            for (String type : new String[] {"F", "U", "B"}) {
                refused(withEntries(type), Words.kindOf(word), 0, RelationFinder.ERR_STACK);
            }
        }
        for (String word : (one + " " + two).split(" ")) {
            String types = Refusals.allowedOperands(Words.kindOf(word)).trim().split(" ")[0];
            DUE.is("add(" + word + ") on just enough", withEntries(types).add(Words.kindOf(word), 0), 1);
        }
    }

    private static void checkFormulaForExpression() {
        DUE.sentence("5. [..] a formula given where an expression is expected");
        refusedOn("F", "transpose closure some no one");
        for (String types : new String[] {"FU", "UF", "FB", "BF", "FF"}) {
            refusedOn(types, "union inter diff join product in eq");
        }
    }

    private static void checkExpressionForFormula() {
        DUE.sentence("5. [..] or an expression where a formula is expected");
        for (String types : new String[] {"U", "B"}) {
            refusedOn(types, "not all exists");
        }
        for (String types : new String[] {"FU", "UF", "FB", "BF", "UU", "UB", "BU", "BB"}) {
            refusedOn(types, "and or implies");
        }
    }

    private static void checkUnequalArities() {
        DUE.sentence("5. [..] unequal arities for K_UNION, K_INTER, K_DIFF, K_IN, K_EQ");
        refusedOn("UB", "union inter diff in eq");
        refusedOn("BU", "union inter diff in eq");
    }

    private static void checkJoinOfUnaries() {
        DUE.sentence("5. [..] two unary operands for K_JOIN");
        refusedOn("UU", "join");
    }

    private static void checkProductOfBinary() {
        DUE.sentence("5. [..] a binary operand for K_PRODUCT");
        refusedOn("UB", "product");
        refusedOn("BU", "product");
        refusedOn("BB", "product");
    }

    private static void checkUnaryToTurn() {
        DUE.sentence("5. [..] a unary operand for K_TRANSPOSE or K_CLOSURE");
        refusedOn("U", "transpose closure");
    }

    private static void checkEveryOtherOperandIsAllowed() {
        DUE.sentence("5. an operand's type or arity is not allowed by the semantics table -> ERR_TYPE (and only "
            + "then)");
        for (int kind = RelationFinder.K_UNION; kind <= 22; kind++) {
            for (String types : Refusals.allowedOperands(kind).trim().split(" ")) {
                DUE.is("add(" + kind + ") on " + types, withEntries(types).add(kind, 0), 1);
                DUE.is("add(" + kind + ") on F and " + types, withEntries("F" + types).add(kind, 0), 2);
                DUE.is("add(" + kind + ") on B and " + types, withEntries("B" + types).add(kind, 0), 2);
            }
        }
    }

    private static void checkFullComesFirst() {
        DUE.sentence("The conditions are examined in this order (ERR_FULL first)");
        RelationFinder x = with("univ some" + " not".repeat(30));
        refused(x, 0, 0, RelationFinder.ERR_FULL);
        refused(x, 23, -1, RelationFinder.ERR_FULL);
        refused(x, Integer.MIN_VALUE, Integer.MIN_VALUE, RelationFinder.ERR_FULL);
        refused(x, RelationFinder.K_REL, 2, RelationFinder.ERR_FULL);
        refused(x, RelationFinder.K_ALL, 3, RelationFinder.ERR_FULL);
        refused(x, RelationFinder.K_AND, 0, RelationFinder.ERR_FULL);
        refused(x, RelationFinder.K_SOME, 0, RelationFinder.ERR_FULL);
    }

    private static void checkKindComesSecond() {
        DUE.sentence("The conditions are examined in this order (ERR_KIND before ERR_ARG, ERR_STACK and ERR_TYPE)");
        for (String types : new String[] {"", "F", "U", "B"}) {
            for (int kind : new int[] {Integer.MIN_VALUE, -1, 0, 23, Integer.MAX_VALUE}) {
                for (int arg : ARGS) {
                    refused(withEntries(types), kind, arg, RelationFinder.ERR_KIND);
                }
            }
        }
    }

    private static void checkArgComesThird() {
        DUE.sentence("The conditions are examined in this order (ERR_ARG before ERR_STACK and ERR_TYPE)");
        for (String types : new String[] {"", "U", "B"}) {
            for (String word : new String[] {"all", "exists"}) {
                int kind = Words.kindOf(word);
                int other = types.isEmpty() ? RelationFinder.ERR_STACK : RelationFinder.ERR_TYPE;
                refused(withEntries(types), kind, -1, RelationFinder.ERR_ARG);
                refused(withEntries(types), kind, 3, RelationFinder.ERR_ARG);
                refused(withEntries(types), kind, 0, other);
                refused(withEntries(types), kind, 2, other);
            }
        }
    }

    private static void checkStackComesFourth() {
        DUE.sentence("The conditions are examined in this order (ERR_STACK before ERR_TYPE)");
        for (String word : "union inter diff join product in eq".split(" ")) {
            refused(withEntries("F"), Words.kindOf(word), 0, RelationFinder.ERR_STACK);
            refused(withEntries("FU"), Words.kindOf(word), 0, RelationFinder.ERR_TYPE);
        }
        for (String word : "and or implies".split(" ")) {
            refused(withEntries("U"), Words.kindOf(word), 0, RelationFinder.ERR_STACK);
            refused(withEntries("FU"), Words.kindOf(word), 0, RelationFinder.ERR_TYPE);
        }
    }

    private static void checkRefusalChangesNothing() {
        DUE.sentence("When refused, nothing changes. (add)");
        for (RelationFinder x : Stages.all()) {
            int relations = x.arityOf(3) != -1 ? 4 : x.arityOf(1) != -1 ? 2 : 1;
            for (int kind : Numbers.ALL) {
                for (int arg : ARGS) {
                    int refusal = Refusals.ofAdd(x, relations, kind, arg);
                    if (refusal != 0) {
                        refused(x, kind, arg, refusal);
                    }
                }
            }
        }
    }

    private static void checkStoredArg() {
        DUE.sentence("the token is appended with its stored arg (the given arg for K_REL, K_VAR, K_ALL, K_EXISTS, "
            + "0 for every other kind)");
        for (int kind = 1; kind <= 22; kind++) {
            String types = kind < RelationFinder.K_UNION ? "" : Refusals.allowedOperands(kind).trim().split(" ")[0];
            boolean stored = kind <= RelationFinder.K_VAR || kind >= RelationFinder.K_ALL;
            for (int arg = 0; arg <= (kind == RelationFinder.K_REL ? 1 : 2); arg++) {
                RelationFinder x = withEntries(types);
                int tokens = x.tokenCount();
                x.add(kind, arg);
                DUE.is("tokenCount() after add(" + kind + ", " + arg + ")", x.tokenCount(), tokens + 1);
                DUE.is("its token", x.token(tokens), kind * 16 + (stored ? arg : 0));
            }
        }
    }

    private static void checkPopsAndPushes() {
        DUE.sentence("the operands are popped and the result is pushed with the type and mask given by the semantics "
            + "table");
        for (int kind = RelationFinder.K_UNION; kind <= 22; kind++) {
            for (String types : Refusals.allowedOperands(kind).trim().split(" ")) {
                for (int masks = 0; masks < (types.length() == 1 ? 8 : 64); masks++) {
                    checkResult(kind, types, masks & 7, masks >> 3);
                }
            }
        }
    }

    private static void checkResult(int kind, String types, int lastMask, int leftMask) {
        RelationFinder x = with("iden v1 some");
        if (types.length() == 2) {
            Words.feed(x, Words.entry(TYPES.indexOf(types.charAt(0)), leftMask));
        }
        Words.feed(x, Words.entry(TYPES.indexOf(types.charAt(types.length() - 1)), lastMask));
        int mask = lastMask | leftMask;
        if (kind >= RelationFinder.K_ALL) {
            mask &= 5;
        }
        String call = "add(" + kind + ", 1) on " + types + " with masks " + leftMask + ", " + lastMask;
        DUE.is(call, x.add(kind, 1), 3);
        DUE.is("entry after " + call, x.stackEntry(2), resultType(kind, types) + 4 * mask);
        DUE.is("entries below after " + call, x.stackEntry(0) + 100 * x.stackEntry(1), 2 + 100 * 8);
        DUE.is("depth() after " + call, x.depth(), 3);
    }

    private static int resultType(int kind, String types) {
        if (kind >= RelationFinder.K_IN) {
            return RelationFinder.E_FORMULA;
        }
        if (kind == RelationFinder.K_PRODUCT) {
            return RelationFinder.E_BINARY;
        }
        boolean mixedJoin = kind == RelationFinder.K_JOIN && !types.equals("BB");
        return mixedJoin ? RelationFinder.E_UNARY : TYPES.indexOf(types.charAt(0));
    }

    private static void checkArityOfThisMoment() {
        DUE.sentence("for K_REL the arity is the relation's arity at this moment");
        for (int rel = 0; rel < 4; rel++) {
            RelationFinder x = new RelationFinder(2, 4);
            for (int arity : new int[] {1, 2, 2, 1}) {
                x.declare(rel, arity);
                x.add(RelationFinder.K_REL, rel);
                DUE.is("stackEntry(0)", x.stackEntry(0), arity);
                DUE.is("a declare is too late", x.declare(rel, 3 - arity), RelationFinder.ERR_BUSY);
                x.add(RelationFinder.K_REL, rel);
                DUE.is("stackEntry(1)", x.stackEntry(1), arity);
                x.clearFormula();
            }
        }
    }

    private static void checkResultIsForgotten() {
        DUE.sentence("Status becomes NOT_SOLVED, the instance is forgotten (add)");
        String[] words = {"r0", "r1", "v0", "v2", "univ", "iden", "not", "all0", "all2", "exists0", "exists2"};
        for (String word : words) {
            for (RelationFinder x : new RelationFinder[] {Stages.sat(), Stages.unsat()}) {
                DUE.is("solved", x.status() != RelationFinder.NOT_SOLVED, true);
                Words.feed(x, word);
                DUE.is("status() after " + word, x.status(), RelationFinder.NOT_SOLVED);
                DUE.is("has(0, 0, 0) after " + word, x.has(0, 0, 0), -1);
                DUE.is("instanceSize(0) after " + word, x.instanceSize(0), -1);
            }
        }
    }

    private static void checkAnswer() {
        DUE.sentence("the answer is the new stack depth (at least 1)");
        RelationFinder x = with("");
        DUE.is("univ", x.add(RelationFinder.K_UNIV, 0), 1);
        DUE.is("iden", x.add(RelationFinder.K_IDEN, 0), 2);
        DUE.is("univ", x.add(RelationFinder.K_UNIV, 0), 3);
        DUE.is("join", x.add(RelationFinder.K_JOIN, 0), 2);
        DUE.is("product", x.add(RelationFinder.K_PRODUCT, 0), 1);
        DUE.is("closure", x.add(RelationFinder.K_CLOSURE, 0), 1);
        DUE.is("some", x.add(RelationFinder.K_SOME, 0), 1);
        DUE.is("all", x.add(RelationFinder.K_ALL, 0), 1);
        RelationFinder deep = with("");
        for (int i = 1; i <= 32; i++) {
            DUE.is("leaf number " + i, deep.add(RelationFinder.K_VAR, i % 3), i);
        }
    }

    private static void checkBoundsStay() {
        DUE.sentence("Arities and bound modes do not change. (add)");
        RelationFinder x = Stages.bounded();
        String arities = bounds(x);
        for (String word : "r1 closure iden in v0 r1 join r0 eq and exists0 r0 one implies".split(" ")) {
            Words.feed(x, word);
            DUE.is("arities and bounds after " + word, bounds(x), arities);
        }
    }

    private static String bounds(RelationFinder x) {
        StringBuilder told = new StringBuilder();
        for (int rel = -1; rel <= 4; rel++) {
            told.append(x.arityOf(rel));
            for (int a = -1; a <= 4; a++) {
                for (int b = -1; b <= 4; b++) {
                    told.append(x.boundOf(rel, a, b));
                }
            }
        }
        return told.toString() + x.freeCount();
    }

    private static void checkQuantifierClearsItsBit() {
        DUE.sentence("A quantifier clears bit v of the mask whether or not it was set.");
        for (int mask = 0; mask < 8; mask++) {
            for (int v = 0; v < 3; v++) {
                for (int kind = RelationFinder.K_ALL; kind <= RelationFinder.K_EXISTS; kind++) {
                    RelationFinder x = with(Words.entry(RelationFinder.E_FORMULA, mask));
                    x.add(kind, v);
                    DUE.is("mask " + mask + " after a quantifier on " + v, x.stackEntry(0), 4 * (mask & ~(1 << v)));
                    x.add(kind, v);
                    DUE.is("mask after the same again", x.stackEntry(0), 4 * (mask & ~(1 << v)));
                }
            }
        }
    }
}
