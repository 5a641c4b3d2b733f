/** Every call that the document refuses in an object's present state, with the refusal that is due. */
final class Refusals {
    // The types of operands that the semantics table allows: F formula, U unary, B binary.
    private static final String[] ALLOWED = {
        "union UU BB", "inter UU BB", "diff UU BB", "join UB BU BB", "product UU", "transpose B", "closure B",
        "in UU BB", "eq UU BB", "some U B", "no U B", "one U B", "not F", "and FF", "or FF", "implies FF", "all F",
        "exists F"
    };
    private static final int[] ATOMS = {Integer.MIN_VALUE, -1, 0, 1, 2, 3, 4, 16, 32, 1 << 30, Integer.MAX_VALUE};
    private static final int[] ARGS = {Integer.MIN_VALUE, -1, 0, 1, 2, 3, 4, Integer.MAX_VALUE};

    private Refusals() {
    }

    /** The kinds from K_UNION on are in the order of ALLOWED. */
    static String allowedOperands(int kind) {
        String row = ALLOWED[kind - RelationFinder.K_UNION];
        return row.substring(row.indexOf(' '));
    }

    static int popsOf(int kind) {
        return kind < RelationFinder.K_UNION ? 0 : allowedOperands(kind).trim().split(" ")[0].length();
    }

    /** What add must answer when it refuses, or 0 where it must not refuse. */
    static int ofAdd(RelationFinder x, int relations, int kind, int arg) {
        if (x.tokenCount() == RelationFinder.MAX_TOKENS) {
            return RelationFinder.ERR_FULL;
        }
        if (kind < 1 || kind > 22) {
            return RelationFinder.ERR_KIND;
        }
        int args = kind == RelationFinder.K_REL ? relations : RelationFinder.MAX_VARS;
        boolean looksAtArg = kind <= RelationFinder.K_VAR || kind >= RelationFinder.K_ALL;
        if (looksAtArg && (arg < 0 || arg >= args)) {
            return RelationFinder.ERR_ARG;
        }
        int pops = popsOf(kind);
        if (x.depth() < pops) {
            return RelationFinder.ERR_STACK;
        }
        String operands = "";
        for (int i = x.depth() - pops; i < x.depth(); i++) {
            operands += "FUB".charAt(x.stackEntry(i) % 4);
        }
        boolean allowed = pops == 0 || (allowedOperands(kind) + " ").contains(" " + operands + " ");
        return allowed ? 0 : RelationFinder.ERR_TYPE;
    }

    /** What solve must answer when it refuses, or 0 where it must not refuse. */
    static int ofSolve(RelationFinder x) {
        if (x.depth() != 1 || x.stackEntry(0) % 4 != RelationFinder.E_FORMULA) {
            return RelationFinder.ERR_NOT_FORMULA;
        }
        if (x.stackEntry(0) / 4 != 0) {
            return RelationFinder.ERR_FREE_VAR;
        }
        return x.freeCount() > RelationFinder.MAX_FREE ? RelationFinder.ERR_TOO_BIG : 0;
    }

    static boolean isTuple(RelationFinder x, int relations, int rel, int a, int b) {
        if (rel < 0 || rel >= relations || a < 0 || a >= x.atoms()) {
            return false;
        }
        return x.arityOf(rel) == 1 ? b == 0 : b >= 0 && b < x.atoms();
    }

    /** Makes all of them, and looks after each method's calls that nothing has changed. */
    static void makeAll(Due due, RelationFinder x, int relations) {
        String before = Calls.picture(x);
        declares(due, x, relations);
        due.is("all getters after refused declares", Calls.picture(x), before);
        bounds(due, x, relations);
        due.is("all getters after refused bounds", Calls.picture(x), before);
        adds(due, x, relations);
        due.is("all getters after refused adds", Calls.picture(x), before);
        int refusal = ofSolve(x);
        if (refusal != 0) {
            due.is("solve()", x.solve(), refusal);
            due.is("all getters after a refused solve", Calls.picture(x), before);
        }
    }

    private static void declares(Due due, RelationFinder x, int relations) {
        for (int rel : ATOMS) {
            for (int arity : ARGS) {
                boolean wrong = rel < 0 || rel >= relations || arity < 1 || arity > 2;
                if (wrong || x.tokenCount() > 0) {
                    int want = wrong ? RelationFinder.ERR_ARG : RelationFinder.ERR_BUSY;
                    due.is("declare(" + rel + ", " + arity + ")", x.declare(rel, arity), want);
                }
            }
        }
    }

    private static void bounds(Due due, RelationFinder x, int relations) {
        for (int rel : ATOMS) {
            for (int a : ATOMS) {
                for (int b : ATOMS) {
                    for (int mode : ARGS) {
                        if (mode < 0 || mode > 2 || !isTuple(x, relations, rel, a, b)) {
                            String call = "bound(" + rel + ", " + a + ", " + b + ", " + mode + ")";
                            due.is(call, x.bound(rel, a, b, mode), RelationFinder.ERR_ARG);
                        }
                    }
                }
            }
        }
    }

    private static void adds(Due due, RelationFinder x, int relations) {
        for (int kind : Numbers.ALL) {
            for (int arg : ARGS) {
                int refusal = ofAdd(x, relations, kind, arg);
                if (refusal != 0) {
                    due.is("add(" + kind + ", " + arg + ")", x.add(kind, arg), refusal);
                }
            }
        }
    }
}
