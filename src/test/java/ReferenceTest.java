import java.util.ArrayList;
import java.util.List;

/** All promises: long runs of mixed calls, right and wrong ones, answered by the program and by Reference. */
public final class ReferenceTest {
    private static final Due DUE = new Due("ReferenceTest");
    private static final int RUNS = 500;
    private static final int CALLS = 60;

    // The runs are the same every time: the numbers come from this recurrence alone.
    private static long seed = 20261115L;

    private static final int[] SOLVED = new int[3];

    private final StringBuilder told = new StringBuilder();
    private RelationFinder x;
    private Reference ref;

    public static void main(String[] args) {
        for (int run = 0; run < RUNS && DUE.allRight(); run++) {
            new ReferenceTest().run();
        }
        System.out.println("ReferenceTest: " + SOLVED[1] + " SAT, " + SOLVED[2] + " UNSAT");
        DUE.is("enough solves of both kinds", SOLVED[1] > RUNS && SOLVED[2] > RUNS / 2, true);
        DUE.end();
    }

    private static int below(int bound) {
        seed = seed * 6364136223846793005L + 1442695040888963407L;
        return (int) ((seed >>> 33) % bound);
    }

    /** A call of the run: it is told in the run's story. */
    private void compare(String call, int got, int want) {
        compareQuietly(call, got, want);
        told.append(call).append(" -> ").append(got).append('\n');
    }

    /** The first wrong answer is told with the whole run before it. */
    private void compareQuietly(String call, int got, int want) {
        boolean first = got != want && DUE.allRight();
        DUE.is(first ? told + call : call, got, want);
    }

    private void run() {
        int atoms = below(8) == 0 ? Calls.EDGES[below(Calls.EDGES.length)] : 1 + below(4);
        int relations = below(8) == 0 ? Calls.EDGES[below(Calls.EDGES.length)] : 1 + below(4);
        told.append("new(").append(atoms).append(", ").append(relations).append(")\n");
        x = new RelationFinder(atoms, relations);
        ref = new Reference(atoms, relations);
        for (int i = 0; i < CALLS && DUE.allRight(); i++) {
            oneStep();
        }
        compareAll();
    }

    private void oneStep() {
        int choice = below(20);
        if (choice < 3) {
            declare(relation(), below(10) == 0 ? below(5) - 1 : 1 + below(2));
        } else if (choice < 9) {
            bound(relation(), atom(), atom(), below(12) == 0 ? below(6) - 1 : below(3));
        } else if (choice < 13) {
            add(below(25), below(10) == 0 ? Calls.EDGES[below(Calls.EDGES.length)] : below(4));
        } else if (choice < 14) {
            solve();
        } else if (choice < 15) {
            clearFormula();
        } else if (choice < 16) {
            compareAll();
        } else {
            wholeFormula();
        }
    }

    private int relation() {
        return below(15) == 0 ? Calls.EDGES[below(Calls.EDGES.length)] : below(ref.arityOf(3) < 0 ? 3 : 4);
    }

    private int atom() {
        return below(15) == 0 ? Calls.EDGES[below(Calls.EDGES.length)] : below(3) == 0 ? 0 : below(ref.atoms());
    }

    private void declare(int rel, int arity) {
        compare("declare(" + rel + ", " + arity + ")", x.declare(rel, arity), ref.declare(rel, arity));
    }

    private void bound(int rel, int a, int b, int mode) {
        String call = "bound(" + rel + ", " + a + ", " + b + ", " + mode + ")";
        compare(call, x.bound(rel, a, b, mode), ref.bound(rel, a, b, mode));
    }

    private void add(int kind, int arg) {
        compare("add(" + kind + ", " + arg + ")", x.add(kind, arg), ref.add(kind, arg));
    }

    private void clearFormula() {
        x.clearFormula();
        ref.clearFormula();
        told.append("clearFormula()\n");
        compare("tokenCount()", x.tokenCount(), ref.tokenCount());
    }

    private void solve() {
        int want = ref.solve();
        if (want > 0) {
            SOLVED[want]++;
        }
        compare("solve()", x.solve(), want);
        compareAll();
    }

    /** A closed formula, most of them made of several parts, and bounds that leave few enough free tuples. */
    private void wholeFormula() {
        clearFormula();
        if (below(3) == 0) {
            declare(below(4), 1 + below(2));
        }
        int most = below(30) == 0 ? 12 : 7;
        while (ref.freeCount() > most) {
            bound(below(4), below(4), below(4), 1 + below(2));
        }
        List<int[]> tokens = new ArrayList<>();
        formula(tokens, 2 + below(4));
        for (int[] token : tokens) {
            add(token[0], token[1]);
        }
        int quantifiers = below(20) == 0 ? 2 : 3;
        int first = below(3);
        for (int i = 0; i < quantifiers; i++) {
            add(21 + below(2), (first + i) % 3);
        }
        solve();
        if (below(3) == 0) {
            bound(below(4), below(4), below(4), below(3));
            solve();
        }
        if (below(3) == 0) {
            add(17, 0);
            solve();
        }
    }

    private void formula(List<int[]> tokens, int size) {
        int choice = size <= 1 ? below(5) : below(12);
        if (choice < 2) {
            int arity = arityToUse();
            expression(tokens, arity, size - 1);
            expression(tokens, arity, size - 1);
            tokens.add(new int[] {12 + choice, below(4)});
        } else if (choice < 5) {
            expression(tokens, arityToUse(), size);
            tokens.add(new int[] {12 + choice, below(4)});
        } else if (choice < 6) {
            formula(tokens, size - 1);
            tokens.add(new int[] {17, below(4)});
        } else if (choice < 9) {
            formula(tokens, size / 2);
            formula(tokens, size - size / 2);
            tokens.add(new int[] {18 + choice - 6, below(4)});
        } else {
            formula(tokens, size - 1);
            tokens.add(new int[] {21 + below(2), below(3)});
        }
    }

    private int arityToUse() {
        return 1 + below(2);
    }

    private void leaf(List<int[]> tokens, int arity) {
        int rel = below(4);
        if (below(3) > 0 && ref.arityOf(rel) == arity) {
            tokens.add(new int[] {1, rel});
        } else if (arity == 2 && below(2) == 0) {
            leaf(tokens, 1);
            leaf(tokens, 1);
            tokens.add(new int[] {9, below(4)});
        } else if (arity == 2) {
            tokens.add(new int[] {4, below(4)});
        } else {
            tokens.add(below(5) == 0 ? new int[] {3, below(4)} : new int[] {2, below(3)});
        }
    }

    private void expression(List<int[]> tokens, int arity, int size) {
        if (size <= 1) {
            leaf(tokens, arity);
            return;
        }
        int choice = below(arity == 1 ? 5 : 7);
        if (choice < 3) {
            operator(tokens, 5 + choice, arity, arity, size);
        } else if (arity == 1) {
            operator(tokens, 8, choice - 2, 5 - choice, size);
        } else if (choice == 3) {
            operator(tokens, 8, 2, 2, size);
        } else if (choice == 4) {
            operator(tokens, 9, 1, 1, size);
        } else {
            expression(tokens, 2, size - 1);
            tokens.add(new int[] {5 + choice, below(4)});
        }
    }

    private void operator(List<int[]> tokens, int kind, int leftArity, int rightArity, int size) {
        boolean leftIsLong = below(2) == 0;
        expression(tokens, leftArity, leftIsLong ? size - 1 : size / 2);
        expression(tokens, rightArity, leftIsLong ? size / 2 : size - 1);
        tokens.add(new int[] {kind, below(4)});
    }

    private void compareAll() {
        compareQuietly("atoms()", x.atoms(), ref.atoms());
        compareQuietly("freeCount()", x.freeCount(), ref.freeCount());
        compareQuietly("tokenCount()", x.tokenCount(), ref.tokenCount());
        compareQuietly("depth()", x.depth(), ref.depth());
        compareQuietly("status()", x.status(), ref.status());
        for (int i = -1; i <= 32; i++) {
            compareQuietly("token " + i, x.token(i), ref.token(i));
            compareQuietly("stackEntry " + i, x.stackEntry(i), ref.stackEntry(i));
        }
        for (int rel = -1; rel <= 4; rel++) {
            compareQuietly("arityOf " + rel, x.arityOf(rel), ref.arityOf(rel));
            compareQuietly("instanceSize " + rel, x.instanceSize(rel), ref.instanceSize(rel));
            compareTuples(rel);
        }
    }

    private void compareTuples(int rel) {
        for (int a = -1; a <= 4; a++) {
            for (int b = -1; b <= 4; b++) {
                compareQuietly("boundOf a tuple", x.boundOf(rel, a, b), ref.boundOf(rel, a, b));
                compareQuietly("has a tuple", x.has(rel, a, b), ref.has(rel, a, b));
            }
        }
    }
}
