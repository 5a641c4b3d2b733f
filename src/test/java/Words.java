import java.util.List;

/** Formulas written as words in postfix order ("v0 r1 join some all0"), and worlds without a FREE tuple. */
final class Words {
    /** The word at place k - 1 stands for kind k; a word that ends in a digit has it as its arg. */
    static final List<String> KINDS = List.of("r", "v", "univ", "iden", "union", "inter", "diff", "join", "product",
        "transpose", "closure", "in", "eq", "some", "no", "one", "not", "and", "or", "implies", "all", "exists");

    private Words() {
    }

    static int kindOf(String word) {
        int kind = 1 + KINDS.indexOf(word.replaceAll("[0-9]", ""));
        if (kind == 0) {
            throw new IllegalArgumentException(word);
        }
        return kind;
    }

    private static int argOf(String word) {
        char last = word.charAt(word.length() - 1);
        return Character.isDigit(last) ? last - '0' : 0;
    }

    /** Feeds words of which none may be refused; answers what the last one answered. */
    static int feed(RelationFinder x, String words) {
        int answer = 0;
        for (String word : words.trim().split(" +")) {
            answer = x.add(kindOf(word), argOf(word));
            if (answer < 1) {
                throw new IllegalStateException(word + " of " + words + " refused with " + answer);
            }
        }
        return answer;
    }

    /** Each relation is written "1: 0 2" (unary) or "2: 01 22" (binary) with all the tuples that it holds. */
    static RelationFinder world(int atoms, String... relations) {
        RelationFinder x = new RelationFinder(atoms, relations.length);
        for (int rel = 0; rel < relations.length; rel++) {
            x.declare(rel, relations[rel].charAt(0) - '0');
            boundAll(x, rel, RelationFinder.EXCLUDE);
            for (String tuple : relations[rel].substring(2).trim().split(" +")) {
                if (!tuple.isEmpty()) {
                    x.bound(rel, tuple.charAt(0) - '0', tuple.length() == 1 ? 0 : tuple.charAt(1) - '0',
                        RelationFinder.REQUIRE);
                }
            }
        }
        return x;
    }

    static void boundAll(RelationFinder x, int rel, int mode) {
        for (int a = 0; a < x.atoms(); a++) {
            for (int b = 0; b < (x.arityOf(rel) == 1 ? 1 : x.atoms()); b++) {
                x.bound(rel, a, b, mode);
            }
        }
    }

    /** All tuples of an arity, as a relation of a world. */
    static String full(int atoms, int arity) {
        StringBuilder told = new StringBuilder(arity + ":");
        for (int a = 0; a < atoms; a++) {
            for (int b = 0; b < (arity == 1 ? 1 : atoms); b++) {
                told.append(' ').append(a).append(arity == 1 ? "" : "" + b);
            }
        }
        return told.toString();
    }

    static int solve(RelationFinder x, String words) {
        x.clearFormula();
        feed(x, words);
        return x.solve();
    }

    /** Tokens for an entry of the given type (E_FORMULA, E_UNARY, E_BINARY) and the given mask. */
    static String entry(int type, int mask) {
        String words = "";
        for (int v = 0; v < 3; v++) {
            if ((mask >> v & 1) == 1) {
                words += words.isEmpty() ? "v" + v : " v" + v + " union";
            }
        }
        if (words.isEmpty()) {
            words = "univ";
        }
        if (type == RelationFinder.E_BINARY) {
            return words + " univ product";
        }
        return type == RelationFinder.E_UNARY ? words : words + " some";
    }
}
