import java.util.ArrayDeque;
import java.util.ArrayList;
import java.util.HashSet;
import java.util.List;
import java.util.Set;

/**
 * The document once more, in the most direct way: trees of tokens, sets of tuples and recursion. It shares no
 * idea with the program but the document, so that a fault would have to be made twice to stay unseen.
 */
final class Reference {
    private static final class Node {
        final int kind;
        final int arg;
        final int type;
        final Node left;
        final Node right;

        Node(int kind, int arg, int type, Node left, Node right) {
            this.kind = kind;
            this.arg = arg;
            this.type = type;
            this.left = left;
            this.right = right;
        }

        Set<Integer> freeVariables() {
            Set<Integer> free = new HashSet<>();
            if (kind == 2) {
                free.add(arg);
            }
            if (left != null) {
                free.addAll(left.freeVariables());
            }
            if (right != null) {
                free.addAll(right.freeVariables());
            }
            if (kind == 21 || kind == 22) {
                free.remove(arg);
            }
            return free;
        }

        int mask() {
            int mask = 0;
            for (int variable : freeVariables()) {
                mask += 1 << variable;
            }
            return mask;
        }
    }

    private final int n;
    private final int r;
    private final int[] arity = {1, 1, 1, 1};
    private final int[][][] mode = new int[4][4][4];
    private final List<Integer> tokens = new ArrayList<>();
    private final List<Node> stack = new ArrayList<>();
    private final boolean[][][] held = new boolean[4][4][4];
    private int status = 0;

    Reference(int atoms, int relations) {
        n = Math.max(1, Math.min(4, atoms));
        r = Math.max(1, Math.min(4, relations));
    }

    int atoms() {
        return n;
    }

    private int columns(int rel) {
        return arity[rel] == 1 ? 1 : n;
    }

    int declare(int rel, int newArity) {
        if (rel < 0 || rel >= r || newArity < 1 || newArity > 2) {
            return -1;
        }
        if (!tokens.isEmpty()) {
            return -6;
        }
        arity[rel] = newArity;
        mode[rel] = new int[4][4];
        status = 0;
        return 0;
    }

    int arityOf(int rel) {
        return rel < 0 || rel >= r ? -1 : arity[rel];
    }

    private boolean isTuple(int rel, int a, int b) {
        return rel >= 0 && rel < r && a >= 0 && a < n && b >= 0 && b < columns(rel);
    }

    int bound(int rel, int a, int b, int newMode) {
        if (!isTuple(rel, a, b) || newMode < 0 || newMode > 2) {
            return -1;
        }
        mode[rel][a][b] = newMode;
        status = 0;
        return freeCount();
    }

    int boundOf(int rel, int a, int b) {
        return isTuple(rel, a, b) ? mode[rel][a][b] : -1;
    }

    int freeCount() {
        return positions().size();
    }

    private List<int[]> positions() {
        List<int[]> free = new ArrayList<>();
        for (int rel = 0; rel < r; rel++) {
            for (int a = 0; a < n; a++) {
                for (int b = 0; b < columns(rel); b++) {
                    if (mode[rel][a][b] == 0) {
                        free.add(new int[] {rel, a, b});
                    }
                }
            }
        }
        return free;
    }

    int add(int kind, int arg) {
        if (tokens.size() == 32) {
            return -2;
        }
        if (kind < 1 || kind > 22) {
            return -3;
        }
        boolean variable = kind == 2 || kind == 21 || kind == 22;
        if (kind == 1 && (arg < 0 || arg >= r) || variable && (arg < 0 || arg >= 3)) {
            return -1;
        }
        int pops = kind <= 4 ? 0 : List.of(10, 11, 14, 15, 16, 17, 21, 22).contains(kind) ? 1 : 2;
        if (stack.size() < pops) {
            return -4;
        }
        Node last = pops == 0 ? null : stack.get(stack.size() - 1);
        Node left = pops == 2 ? stack.get(stack.size() - 2) : last;
        Node right = pops == 2 ? last : null;
        int type = typeOf(kind, arg, left == null ? -1 : left.type, right == null ? -1 : right.type);
        if (type < 0) {
            return -5;
        }
        for (int i = 0; i < pops; i++) {
            stack.remove(stack.size() - 1);
        }
        int stored = kind == 1 || variable ? arg : 0;
        stack.add(new Node(kind, stored, type, left, right));
        tokens.add(kind * 16 + stored);
        status = 0;
        return stack.size();
    }

    private int typeOf(int kind, int arg, int left, int right) {
        switch (kind) {
            case 1: return arity[arg];
            case 2: case 3: return 1;
            case 4: return 2;
            case 5: case 6: case 7: return left == right && left > 0 ? left : -1;
            case 8: return left == 2 && right == 2 ? 2 : left > 0 && right > 0 && left + right == 3 ? 1 : -1;
            case 9: return left == 1 && right == 1 ? 2 : -1;
            case 10: case 11: return left == 2 ? 2 : -1;
            case 12: case 13: return left == right && left > 0 ? 0 : -1;
            case 14: case 15: case 16: return left > 0 ? 0 : -1;
            case 17: case 21: case 22: return left == 0 ? 0 : -1;
            default: return left == 0 && right == 0 ? 0 : -1;
        }
    }

    void clearFormula() {
        tokens.clear();
        stack.clear();
        status = 0;
    }

    int tokenCount() {
        return tokens.size();
    }

    int token(int i) {
        return i < 0 || i >= tokens.size() ? -1 : tokens.get(i);
    }

    int depth() {
        return stack.size();
    }

    int stackEntry(int i) {
        return i < 0 || i >= stack.size() ? -1 : stack.get(i).type + 4 * stack.get(i).mask();
    }

    int solve() {
        if (stack.size() != 1 || stack.get(0).type != 0) {
            return -7;
        }
        if (stack.get(0).mask() != 0) {
            return -8;
        }
        List<int[]> free = positions();
        if (free.size() > 12) {
            return -9;
        }
        for (int rel = 0; rel < r; rel++) {
            for (int a = 0; a < n; a++) {
                for (int b = 0; b < columns(rel); b++) {
                    held[rel][a][b] = mode[rel][a][b] == 1;
                }
            }
        }
        status = findFrom(free, 0) ? 1 : 2;
        return status;
    }

    /** Tries 'not held' before 'held' at each position, from the first on: the first model met is the least. */
    private boolean findFrom(List<int[]> free, int position) {
        if (position == free.size()) {
            return isTrue(stack.get(0), new int[] {-1, -1, -1});
        }
        int[] tuple = free.get(position);
        for (boolean choice : new boolean[] {false, true}) {
            held[tuple[0]][tuple[1]][tuple[2]] = choice;
            if (findFrom(free, position + 1)) {
                return true;
            }
        }
        return false;
    }

    private boolean isTrue(Node f, int[] env) {
        switch (f.kind) {
            case 12: return setOf(f.right, env).containsAll(setOf(f.left, env));
            case 13: return setOf(f.left, env).equals(setOf(f.right, env));
            case 14: return setOf(f.left, env).size() >= 1;
            case 15: return setOf(f.left, env).size() == 0;
            case 16: return setOf(f.left, env).size() == 1;
            case 17: return !isTrue(f.left, env);
            case 18: return isTrue(f.left, env) && isTrue(f.right, env);
            case 19: return isTrue(f.left, env) || isTrue(f.right, env);
            case 20: return !isTrue(f.left, env) || isTrue(f.right, env);
            default: break;
        }
        int count = 0;
        for (int a = 0; a < n; a++) {
            int[] inner = env.clone();
            inner[f.arg] = a;
            count += isTrue(f.left, inner) ? 1 : 0;
        }
        return f.kind == 21 ? count == n : count > 0;
    }

    /** An atom a is the number a, a pair (a, b) the number 10 * a + b. */
    private Set<Integer> setOf(Node e, int[] env) {
        Set<Integer> value = new HashSet<>();
        if (e.kind <= 4) {
            for (int a = 0; a < n; a++) {
                for (int b = 0; b < n; b++) {
                    if (e.kind == 1 && arity[e.arg] == 2 && held[e.arg][a][b] || e.kind == 4 && a == b) {
                        value.add(10 * a + b);
                    }
                }
                if (e.kind == 1 && arity[e.arg] == 1 && held[e.arg][a][0] || e.kind == 2 && env[e.arg] == a
                    || e.kind == 3) {
                    value.add(a);
                }
            }
            return value;
        }
        Set<Integer> left = setOf(e.left, env);
        Set<Integer> right = e.right == null ? Set.of() : setOf(e.right, env);
        switch (e.kind) {
            case 5:
                value.addAll(left);
                value.addAll(right);
                return value;
            case 6:
                value.addAll(left);
                value.retainAll(right);
                return value;
            case 7:
                value.addAll(left);
                value.removeAll(right);
                return value;
            case 8: return join(left, e.left.type, right, e.right.type);
            case 9:
                left.forEach(a -> right.forEach(b -> value.add(10 * a + b)));
                return value;
            case 10:
                left.forEach(ab -> value.add(ab % 10 * 10 + ab / 10));
                return value;
            default: return closure(left);
        }
    }

    private Set<Integer> join(Set<Integer> left, int leftType, Set<Integer> right, int rightType) {
        Set<Integer> joined = new HashSet<>();
        for (int l : left) {
            for (int t : right) {
                int lastOfLeft = l % 10;
                int firstOfRight = rightType == 1 ? t : t / 10;
                if (lastOfLeft == firstOfRight) {
                    joined.add(leftType == 1 ? t % 10 : rightType == 1 ? l / 10 : l / 10 * 10 + t % 10);
                }
            }
        }
        return joined;
    }

    /** The pairs (a, b) for which a walk from a, one or more steps long, meets b. */
    private Set<Integer> closure(Set<Integer> pairs) {
        Set<Integer> closed = new HashSet<>();
        for (int a = 0; a < n; a++) {
            ArrayDeque<Integer> open = new ArrayDeque<>();
            open.add(a);
            while (!open.isEmpty()) {
                int from = open.remove();
                for (int b = 0; b < n; b++) {
                    if (pairs.contains(10 * from + b) && closed.add(10 * a + b)) {
                        open.add(b);
                    }
                }
            }
        }
        return closed;
    }

    int status() {
        return status;
    }

    int has(int rel, int a, int b) {
        return status != 1 || !isTuple(rel, a, b) ? -1 : held[rel][a][b] ? 1 : 0;
    }

    int instanceSize(int rel) {
        if (status != 1 || rel < 0 || rel >= r) {
            return -1;
        }
        int size = 0;
        for (int a = 0; a < n; a++) {
            for (int b = 0; b < columns(rel); b++) {
                size += held[rel][a][b] ? 1 : 0;
            }
        }
        return size;
    }
}
