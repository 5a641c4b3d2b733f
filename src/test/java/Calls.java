/** What several tests do with a RelationFinder. */
final class Calls {
    /** Numbers that are wrong, or just right, as one or another argument. */
    static final int[] EDGES = {
        Integer.MIN_VALUE, Integer.MIN_VALUE + 1, -17, -2, -1, 0, 1, 2, 3, 4, 5, 16, 32, 33, 64, Integer.MAX_VALUE
    };

    private Calls() {
    }

    /** Everything that the getters tell, asked well beyond the ranges of their arguments. */
    static String picture(RelationFinder x) {
        StringBuilder told = new StringBuilder();
        told.append(x.atoms()).append(' ').append(x.freeCount()).append(' ').append(x.status());
        told.append("\ntokens ").append(x.tokenCount());
        for (int i = -1; i <= 33; i++) {
            told.append(' ').append(x.token(i));
        }
        told.append("\nstack ").append(x.depth());
        for (int i = -1; i <= 33; i++) {
            told.append(' ').append(x.stackEntry(i));
        }
        for (int rel = -1; rel <= 5; rel++) {
            told.append("\nrelation ").append(x.arityOf(rel)).append(' ').append(x.instanceSize(rel));
            for (int a = -1; a <= 5; a++) {
                for (int b = -1; b <= 5; b++) {
                    told.append(' ').append(x.boundOf(rel, a, b)).append('/').append(x.has(rel, a, b));
                }
            }
        }
        return told.toString();
    }

    /** Feeds tokens given as kind, arg, kind, arg, ...; answers what the last one answered. */
    static int feed(RelationFinder x, int... kindsAndArgs) {
        int answer = 0;
        for (int i = 0; i + 1 < kindsAndArgs.length; i += 2) {
            answer = x.add(kindsAndArgs[i], kindsAndArgs[i + 1]);
            if (answer < 1) {
                throw new IllegalStateException("token " + i / 2 + " refused with " + answer);
            }
        }
        return answer;
    }

    /** Fixes all tuples of a relation: those named (a, b, a, b, ...) are required, all others excluded. */
    static void fix(RelationFinder x, int rel, int... pairs) {
        int lastB = x.arityOf(rel) == 1 ? 0 : x.atoms() - 1;
        for (int a = 0; a < x.atoms(); a++) {
            for (int b = 0; b <= lastB; b++) {
                x.bound(rel, a, b, RelationFinder.EXCLUDE);
            }
        }
        for (int i = 0; i + 1 < pairs.length; i += 2) {
            x.bound(rel, pairs[i], pairs[i + 1], RelationFinder.REQUIRE);
        }
    }

    /** The instance's tuples of a relation, in order, as "ab ab ..." or "a a ...". */
    static String tuples(RelationFinder x, int rel) {
        boolean unary = x.arityOf(rel) == 1;
        StringBuilder told = new StringBuilder();
        for (int a = 0; a < x.atoms(); a++) {
            for (int b = 0; b < (unary ? 1 : x.atoms()); b++) {
                if (x.has(rel, a, b) == 1) {
                    told.append(told.length() == 0 ? "" : " ").append(a).append(unary ? "" : "" + b);
                }
            }
        }
        return told.toString();
    }
}
