import java.util.ArrayList;
import java.util.List;
import java.util.function.Supplier;

/** Objects in every stage that the document tells apart. */
final class Stages {
    private Stages() {
    }

    /** Two relations over three atoms, unary and binary, with tuples of every mode. */
    static RelationFinder bounded() {
        RelationFinder x = new RelationFinder(3, 2);
        x.declare(1, 2);
        x.bound(0, 0, 0, RelationFinder.REQUIRE);
        x.bound(0, 2, 0, RelationFinder.EXCLUDE);
        x.bound(1, 0, 2, RelationFinder.EXCLUDE);
        x.bound(1, 2, 1, RelationFinder.REQUIRE);
        return x;
    }

    static RelationFinder fed(String words) {
        RelationFinder x = bounded();
        Words.feed(x, words);
        return x;
    }

    /** With an instance: 0 in r0 and (2, 1) in r1 are required, (2, 2) in r1 is chosen. */
    static RelationFinder sat() {
        RelationFinder x = fed("r0 one iden r1 inter some and");
        x.solve();
        return x;
    }

    static RelationFinder unsat() {
        RelationFinder x = fed("r0 no");
        x.solve();
        return x;
    }

    /** As many tokens as there may be, and a complete formula. */
    static RelationFinder fullOfTokens() {
        return fed("univ some" + " not".repeat(30));
    }

    /** As many stack entries as there may be. */
    static RelationFinder fullStack() {
        return fed("univ" + " v2".repeat(31));
    }

    private static RelationFinder fullOfTokensSolved() {
        RelationFinder x = fullOfTokens();
        x.solve();
        return x;
    }

    private static RelationFinder tooBig() {
        RelationFinder x = new RelationFinder(4, 4);
        Words.feed(x, "r3 some");
        return x;
    }

    static List<Supplier<RelationFinder>> makers() {
        return List.of(() -> new RelationFinder(1, 1), () -> new RelationFinder(4, 4), Stages::bounded,
            () -> fed("univ"), () -> fed("r1"), () -> fed("v1 some"), () -> fed("v2 r0 in all2 not"),
            () -> fed("univ some univ some"), () -> fed("r0 r1 v2 some"), Stages::sat, Stages::unsat,
            Stages::fullOfTokens, Stages::fullOfTokensSolved, Stages::fullStack, Stages::tooBig);
    }

    static List<RelationFinder> all() {
        List<RelationFinder> stages = new ArrayList<>();
        for (Supplier<RelationFinder> maker : makers()) {
            stages.add(maker.get());
        }
        return stages;
    }
}
