/**
 * A bounded model finder for relational logic over at most four atoms.
 *
 * A set of atoms is kept as an int whose bit a stands for atom a; a set of pairs as an int whose bit
 * a * MAX_ATOMS + b stands for the pair (a, b). The width of a row does not depend on the number of atoms, so
 * that bits ascend in the document's order of tuples for every universe. A formula's value is 1 or 0.
 */
public final class RelationFinder {
    public static final int NOT_SOLVED = 0;
    public static final int SAT = 1;
    public static final int UNSAT = 2;
    public static final int FREE = 0;
    public static final int REQUIRE = 1;
    public static final int EXCLUDE = 2;
    public static final int E_FORMULA = 0;
    public static final int E_UNARY = 1;
    public static final int E_BINARY = 2;
    public static final int K_REL = 1;
    public static final int K_VAR = 2;
    public static final int K_UNIV = 3;
    public static final int K_IDEN = 4;
    public static final int K_UNION = 5;
    public static final int K_INTER = 6;
    public static final int K_DIFF = 7;
    public static final int K_JOIN = 8;
    public static final int K_PRODUCT = 9;
    public static final int K_TRANSPOSE = 10;
    public static final int K_CLOSURE = 11;
    public static final int K_IN = 12;
    public static final int K_EQ = 13;
    public static final int K_SOME = 14;
    public static final int K_NO = 15;
    public static final int K_ONE = 16;
    public static final int K_NOT = 17;
    public static final int K_AND = 18;
    public static final int K_OR = 19;
    public static final int K_IMPLIES = 20;
    public static final int K_ALL = 21;
    public static final int K_EXISTS = 22;
    public static final int ERR_ARG = -1;
    public static final int ERR_FULL = -2;
    public static final int ERR_KIND = -3;
    public static final int ERR_STACK = -4;
    public static final int ERR_TYPE = -5;
    public static final int ERR_BUSY = -6;
    public static final int ERR_NOT_FORMULA = -7;
    public static final int ERR_FREE_VAR = -8;
    public static final int ERR_TOO_BIG = -9;
    public static final int MAX_ATOMS = 4;
    public static final int MAX_RELATIONS = 4;
    public static final int MAX_TOKENS = 32;
    public static final int MAX_VARS = 3;
    public static final int MAX_FREE = 12;

    private static final int UNKNOWN = -1;
    private static final int UNARY = 1;
    private static final int BINARY = 2;
    private static final int TUPLE_BITS = MAX_ATOMS * MAX_ATOMS;
    private static final int ROW_MASK = (1 << MAX_ATOMS) - 1;

    // An environment is a number with one digit of so many bits, an atom, for each variable.
    private static final int DIGIT_BITS = 2;
    private static final int DIGIT_MASK = (1 << DIGIT_BITS) - 1;
    private static final int MAX_ENVIRONMENTS = 1 << (DIGIT_BITS * MAX_VARS);
    private static final int VALUE_CELLS = MAX_TOKENS * MAX_ENVIRONMENTS;

    // K_JOIN means three things; which one is settled when it is fed, and kept as one of these steps.
    private static final int STEP_IMAGE = 23;
    private static final int STEP_PREIMAGE = 24;
    private static final int STEP_COMPOSE = 25;

    private final int atomCount;
    private final int relationCount;

    private final int[] arities = new int[MAX_RELATIONS];
    private final int[] required = new int[MAX_RELATIONS];
    private final int[] excluded = new int[MAX_RELATIONS];

    private final int[] tokenKinds = new int[MAX_TOKENS];
    private final int[] tokenArgs = new int[MAX_TOKENS];
    private final int[] tokenSteps = new int[MAX_TOKENS];
    private int tokensFed = 0;

    private final int[] entryTypes = new int[MAX_TOKENS];
    private final int[] entryMasks = new int[MAX_TOKENS];
    private int stackDepth = 0;

    // The assignment under trial; it is the reported instance while the state is SAT.
    private final int[] held = new int[MAX_RELATIONS];
    private int state = NOT_SOLVED;

    private final int[] positionRelations = new int[MAX_FREE];
    private final int[] positionBits = new int[MAX_FREE];
    private int positionCount = 0;

    // Every stack entry has its value under every environment, so that a quantifier needs no second reading of
    // its body.
    private final int[] values = new int[VALUE_CELLS];
    private int environmentCount = 1;

    public RelationFinder(int atoms, int relations) {
        atomCount = clamp(atoms, MAX_ATOMS);
        relationCount = clamp(relations, MAX_RELATIONS);
        for (int rel = 0; rel < MAX_RELATIONS; rel++) {
            arities[rel] = UNARY;
        }
    }

    public int atoms() {
        return atomCount;
    }

    public int declare(int rel, int arity) {
        if (!isRelation(rel)) {
            return ERR_ARG;
        }
        if (arity != UNARY && arity != BINARY) {
            return ERR_ARG;
        }
        if (tokensFed > 0) {
            return ERR_BUSY;
        }
        arities[rel] = arity;
        required[rel] = 0;
        excluded[rel] = 0;
        state = NOT_SOLVED;
        return 0;
    }

    public int arityOf(int rel) {
        return isRelation(rel) ? arities[rel] : UNKNOWN;
    }

    public int bound(int rel, int a, int b, int mode) {
        int bit = tupleBit(rel, a, b);
        if (bit == 0) {
            return ERR_ARG;
        }
        if (mode != FREE && mode != REQUIRE && mode != EXCLUDE) {
            return ERR_ARG;
        }
        required[rel] &= ~bit;
        excluded[rel] &= ~bit;
        if (mode == REQUIRE) {
            required[rel] |= bit;
        } else if (mode == EXCLUDE) {
            excluded[rel] |= bit;
        }
        state = NOT_SOLVED;
        return freeCount();
    }

    public int boundOf(int rel, int a, int b) {
        int bit = tupleBit(rel, a, b);
        if (bit == 0) {
            return UNKNOWN;
        }
        if ((required[rel] & bit) != 0) {
            return REQUIRE;
        }
        return (excluded[rel] & bit) != 0 ? EXCLUDE : FREE;
    }

    public int freeCount() {
        int count = 0;
        for (int rel = 0; rel < relationCount; rel++) {
            int free = freeTuples(rel);
            count += sizeOf(free);
        }
        return count;
    }

    public int add(int kind, int arg) {
        if (tokensFed >= MAX_TOKENS) {
            return ERR_FULL;
        }
        if (kind < K_REL || kind > K_EXISTS) {
            return ERR_KIND;
        }
        if (isArgWrong(kind, arg)) {
            return ERR_ARG;
        }
        int operands = operandCount(kind);
        if (stackDepth < operands) {
            return ERR_STACK;
        }
        int type = resultType(kind, arg, operands);
        if (type == ERR_TYPE) {
            return ERR_TYPE;
        }
        int mask = resultMask(kind, arg, operands);
        tokenKinds[tokensFed] = kind;
        tokenArgs[tokensFed] = usesArg(kind) ? arg : 0;
        tokenSteps[tokensFed] = stepOf(kind);
        tokensFed++;
        stackDepth -= operands;
        entryTypes[stackDepth] = type;
        entryMasks[stackDepth] = mask;
        stackDepth++;
        state = NOT_SOLVED;
        return stackDepth;
    }

    public void clearFormula() {
        tokensFed = 0;
        stackDepth = 0;
        state = NOT_SOLVED;
    }

    public int tokenCount() {
        return tokensFed;
    }

    public int token(int i) {
        if (i < 0 || i >= tokensFed) {
            return UNKNOWN;
        }
        return tokenKinds[i] * 16 + tokenArgs[i];
    }

    public int depth() {
        return stackDepth;
    }

    public int stackEntry(int i) {
        if (i < 0 || i >= stackDepth) {
            return UNKNOWN;
        }
        return entryTypes[i] + 4 * entryMasks[i];
    }

    public int solve() {
        if (stackDepth != 1 || entryTypes[0] != E_FORMULA) {
            return ERR_NOT_FORMULA;
        }
        if (entryMasks[0] != 0) {
            return ERR_FREE_VAR;
        }
        if (freeCount() > MAX_FREE) {
            return ERR_TOO_BIG;
        }
        listPositions();
        countEnvironments();
        state = UNSAT;
        int assignments = 1 << positionCount;
        for (int number = 0; number < assignments; number++) {
            assign(number);
            if (formulaHolds()) {
                state = SAT;
                break;
            }
        }
        return state;
    }

    public int status() {
        return state;
    }

    public int has(int rel, int a, int b) {
        if (state != SAT) {
            return UNKNOWN;
        }
        int bit = tupleBit(rel, a, b);
        if (bit == 0) {
            return UNKNOWN;
        }
        return (held[rel] & bit) != 0 ? 1 : 0;
    }

    public int instanceSize(int rel) {
        if (state != SAT || !isRelation(rel)) {
            return UNKNOWN;
        }
        return sizeOf(held[rel]);
    }

    private static int clamp(int value, int most) {
        if (value < 1) {
            return 1;
        }
        return value > most ? most : value;
    }

    private boolean isRelation(int rel) {
        return rel >= 0 && rel < relationCount;
    }

    private boolean isAtom(int a) {
        return a >= 0 && a < atomCount;
    }

    /** The bit of a tuple, or 0 where rel has no such tuple. */
    private int tupleBit(int rel, int a, int b) {
        if (!isRelation(rel) || !isAtom(a)) {
            return 0;
        }
        if (arities[rel] == UNARY) {
            return b == 0 ? 1 << a : 0;
        }
        return isAtom(b) ? 1 << (a * MAX_ATOMS + b) : 0;
    }

    private int allAtoms() {
        return (1 << atomCount) - 1;
    }

    private int freeTuples(int rel) {
        int atoms = allAtoms();
        int tuples = arities[rel] == UNARY ? atoms : productOf(atoms, atoms);
        return tuples & ~required[rel] & ~excluded[rel];
    }

    private static int sizeOf(int set) {
        int size = 0;
        for (int bit = 0; bit < TUPLE_BITS; bit++) {
            size += (set >> bit) & 1;
        }
        return size;
    }

    private static boolean isQuantifier(int kind) {
        return kind == K_ALL || kind == K_EXISTS;
    }

    private static boolean namesVariable(int kind) {
        return kind == K_VAR || isQuantifier(kind);
    }

    private static boolean usesArg(int kind) {
        return kind == K_REL || namesVariable(kind);
    }

    private boolean isArgWrong(int kind, int arg) {
        if (kind == K_REL) {
            return !isRelation(arg);
        }
        return namesVariable(kind) && (arg < 0 || arg >= MAX_VARS);
    }

    private static int operandCount(int kind) {
        switch (kind) {
            case K_REL:
            case K_VAR:
            case K_UNIV:
            case K_IDEN:
                return 0;
            case K_TRANSPOSE:
            case K_CLOSURE:
            case K_SOME:
            case K_NO:
            case K_ONE:
            case K_NOT:
            case K_ALL:
            case K_EXISTS:
                return 1;
            default:
                return 2;
        }
    }

    private int resultType(int kind, int arg, int operands) {
        if (operands == 0) {
            return typeOfLeaf(kind, arg);
        }
        int right = entryTypes[stackDepth - 1];
        if (operands == 1) {
            return typeOverOne(kind, right);
        }
        int left = entryTypes[stackDepth - 2];
        return typeOverTwo(kind, left, right);
    }

    private int typeOfLeaf(int kind, int arg) {
        if (kind == K_REL) {
            return arities[arg] == UNARY ? E_UNARY : E_BINARY;
        }
        return kind == K_IDEN ? E_BINARY : E_UNARY;
    }

    private static int typeOverOne(int kind, int operand) {
        switch (kind) {
            case K_TRANSPOSE:
            case K_CLOSURE:
                return operand == E_BINARY ? E_BINARY : ERR_TYPE;
            case K_SOME:
            case K_NO:
            case K_ONE:
                return operand != E_FORMULA ? E_FORMULA : ERR_TYPE;
            default:
                return operand == E_FORMULA ? E_FORMULA : ERR_TYPE;
        }
    }

    private static int typeOverTwo(int kind, int left, int right) {
        boolean alike = left == right;
        boolean expressions = left != E_FORMULA && right != E_FORMULA;
        switch (kind) {
            case K_UNION:
            case K_INTER:
            case K_DIFF:
                return expressions && alike ? left : ERR_TYPE;
            case K_IN:
            case K_EQ:
                return expressions && alike ? E_FORMULA : ERR_TYPE;
            case K_JOIN:
                if (!expressions || (left == E_UNARY && right == E_UNARY)) {
                    return ERR_TYPE;
                }
                return alike ? E_BINARY : E_UNARY;
            case K_PRODUCT:
                return left == E_UNARY && right == E_UNARY ? E_BINARY : ERR_TYPE;
            default:
                return left == E_FORMULA && right == E_FORMULA ? E_FORMULA : ERR_TYPE;
        }
    }

    private int resultMask(int kind, int arg, int operands) {
        if (operands == 0) {
            return kind == K_VAR ? 1 << arg : 0;
        }
        int mask = entryMasks[stackDepth - 1];
        if (operands == 2) {
            mask |= entryMasks[stackDepth - 2];
        }
        return isQuantifier(kind) ? mask & ~(1 << arg) : mask;
    }

    /** To be asked while the operands are still on the stack. */
    private int stepOf(int kind) {
        if (kind != K_JOIN) {
            return kind;
        }
        if (entryTypes[stackDepth - 2] == E_UNARY) {
            return STEP_IMAGE;
        }
        return entryTypes[stackDepth - 1] == E_UNARY ? STEP_PREIMAGE : STEP_COMPOSE;
    }

    private void listPositions() {
        positionCount = 0;
        for (int rel = 0; rel < relationCount; rel++) {
            int free = freeTuples(rel);
            for (int bit = 0; bit < TUPLE_BITS; bit++) {
                if (((free >> bit) & 1) != 0 && positionCount < MAX_FREE) {
                    positionRelations[positionCount] = rel;
                    positionBits[positionCount] = 1 << bit;
                    positionCount++;
                }
            }
        }
    }

    /** Variables that no token names need no digit: most formulas have far fewer environments than the most. */
    private void countEnvironments() {
        int digits = 0;
        for (int i = 0; i < tokensFed; i++) {
            if (namesVariable(tokenKinds[i]) && tokenArgs[i] >= digits) {
                digits = tokenArgs[i] + 1;
            }
        }
        environmentCount = 1 << (DIGIT_BITS * digits);
    }

    /** The first position is the number's highest bit, so that numbers ascend as assignments precede each other. */
    private void assign(int number) {
        for (int rel = 0; rel < relationCount; rel++) {
            held[rel] = required[rel];
        }
        for (int i = 0; i < positionCount; i++) {
            if (((number >> (positionCount - 1 - i)) & 1) != 0) {
                held[positionRelations[i]] |= positionBits[i];
            }
        }
    }

    private boolean formulaHolds() {
        int height = 0;
        for (int i = 0; i < tokensFed; i++) {
            int operands = operandCount(tokenKinds[i]);
            height -= operands;
            evaluateToken(i, operands, height * MAX_ENVIRONMENTS);
            height++;
        }
        return values[0] != 0;
    }

    /** The left or only operand's values begin at cell, and the result's take their place. */
    private void evaluateToken(int i, int operands, int cell) {
        int step = tokenSteps[i];
        int arg = tokenArgs[i];
        if (isQuantifier(step)) {
            quantify(step, arg, cell);
            return;
        }
        for (int env = 0; env < environmentCount; env++) {
            int at = cell + env;
            if (operands == 0) {
                values[at] = valueOfLeaf(step, arg, env);
            } else if (operands == 1) {
                values[at] = valueOverOne(step, values[at]);
            } else {
                values[at] = valueOverTwo(step, values[at], values[at + MAX_ENVIRONMENTS]);
            }
        }
    }

    /**
     * Settles together the environments that differ in the variable alone. Digits that are no atoms of this
     * universe are never looked at here, so what is computed under them reaches no closed formula.
     */
    private void quantify(int kind, int variable, int cell) {
        int shift = DIGIT_BITS * variable;
        for (int env = 0; env < environmentCount; env++) {
            if (((env >> shift) & DIGIT_MASK) != 0) {
                continue;
            }
            int trueCount = 0;
            for (int a = 0; a < atomCount; a++) {
                trueCount += values[cell + env + (a << shift)];
            }
            int needed = kind == K_ALL ? atomCount : 1;
            int value = trueCount >= needed ? 1 : 0;
            for (int a = 0; a < atomCount; a++) {
                values[cell + env + (a << shift)] = value;
            }
        }
    }

    private int valueOfLeaf(int kind, int arg, int env) {
        switch (kind) {
            case K_REL:
                return held[arg];
            case K_VAR:
                return 1 << ((env >> (DIGIT_BITS * arg)) & DIGIT_MASK);
            case K_UNIV:
                return allAtoms();
            default:
                return identity();
        }
    }

    private static int valueOverOne(int kind, int operand) {
        switch (kind) {
            case K_TRANSPOSE:
                return transposeOf(operand);
            case K_CLOSURE:
                return closureOf(operand);
            case K_SOME:
                return operand != 0 ? 1 : 0;
            case K_ONE:
                return operand != 0 && (operand & (operand - 1)) == 0 ? 1 : 0;
            default:
                // K_NO and K_NOT both ask for 0: no tuple, and false.
                return operand == 0 ? 1 : 0;
        }
    }

    private static int valueOverTwo(int step, int left, int right) {
        switch (step) {
            case K_UNION:
            case K_OR:
                return left | right;
            case K_INTER:
            case K_AND:
                return left & right;
            case K_DIFF:
                return left & ~right;
            case STEP_IMAGE:
                return imageOf(left, right);
            case STEP_PREIMAGE:
                return preimageOf(left, right);
            case STEP_COMPOSE:
                return compositionOf(left, right);
            case K_PRODUCT:
                return productOf(left, right);
            case K_EQ:
                return left == right ? 1 : 0;
            default:
                // K_IN and K_IMPLIES both ask that nothing of the left be missing on the right.
                return (left & ~right) == 0 ? 1 : 0;
        }
    }

    private int identity() {
        int pairs = 0;
        for (int a = 0; a < atomCount; a++) {
            pairs |= 1 << (a * MAX_ATOMS + a);
        }
        return pairs;
    }

    private static int transposeOf(int pairs) {
        int turned = 0;
        for (int a = 0; a < MAX_ATOMS; a++) {
            for (int b = 0; b < MAX_ATOMS; b++) {
                turned |= ((pairs >> (a * MAX_ATOMS + b)) & 1) << (b * MAX_ATOMS + a);
            }
        }
        return turned;
    }

    /** Warshall's order: after the turn of an atom, every path whose inner atoms had their turn is a pair. */
    private static int closureOf(int pairs) {
        int closed = pairs;
        for (int via = 0; via < MAX_ATOMS; via++) {
            int row = (closed >> (via * MAX_ATOMS)) & ROW_MASK;
            for (int a = 0; a < MAX_ATOMS; a++) {
                if (((closed >> (a * MAX_ATOMS + via)) & 1) != 0) {
                    closed |= row << (a * MAX_ATOMS);
                }
            }
        }
        return closed;
    }

    private static int imageOf(int set, int pairs) {
        int image = 0;
        for (int a = 0; a < MAX_ATOMS; a++) {
            if (((set >> a) & 1) != 0) {
                image |= (pairs >> (a * MAX_ATOMS)) & ROW_MASK;
            }
        }
        return image;
    }

    private static int preimageOf(int pairs, int set) {
        int preimage = 0;
        for (int a = 0; a < MAX_ATOMS; a++) {
            if (((pairs >> (a * MAX_ATOMS)) & set) != 0) {
                preimage |= 1 << a;
            }
        }
        return preimage;
    }

    private static int compositionOf(int left, int right) {
        int pairs = 0;
        for (int a = 0; a < MAX_ATOMS; a++) {
            int row = (left >> (a * MAX_ATOMS)) & ROW_MASK;
            int image = imageOf(row, right);
            pairs |= image << (a * MAX_ATOMS);
        }
        return pairs;
    }

    private static int productOf(int left, int right) {
        int pairs = 0;
        for (int a = 0; a < MAX_ATOMS; a++) {
            if (((left >> a) & 1) != 0) {
                pairs |= right << (a * MAX_ATOMS);
            }
        }
        return pairs;
    }
}
