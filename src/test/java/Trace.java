import java.util.LinkedHashMap;
import java.util.List;
import java.util.Map;
import java.util.function.Consumer;
import java.util.function.Supplier;
import java.util.function.ToIntFunction;

/**
 * Looks whether calls leave a trace. Each question is put, as the first and only one, to a new object that had the
 * calls and to a new one that had not: a picture before and after would not show what its own getters change.
 */
final class Trace {
    private static final Map<String, ToIntFunction<RelationFinder>> QUESTIONS = new LinkedHashMap<>();

    static {
        QUESTIONS.put("atoms()", RelationFinder::atoms);
        QUESTIONS.put("freeCount()", RelationFinder::freeCount);
        QUESTIONS.put("tokenCount()", RelationFinder::tokenCount);
        QUESTIONS.put("depth()", RelationFinder::depth);
        QUESTIONS.put("status()", RelationFinder::status);
        QUESTIONS.put("solve()", RelationFinder::solve);
        for (int i : new int[] {0, 1, 31}) {
            QUESTIONS.put("token(" + i + ")", x -> x.token(i));
            QUESTIONS.put("stackEntry(" + i + ")", x -> x.stackEntry(i));
        }
        for (int rel = 0; rel < 2; rel++) {
            askRelation(rel);
        }
        for (int kind = 1; kind <= 22; kind++) {
            int fed = kind;
            QUESTIONS.put("add(" + kind + ", 0)", x -> x.add(fed, 0));
        }
    }

    private Trace() {
    }

    private static void askRelation(int rel) {
        QUESTIONS.put("arityOf(" + rel + ")", x -> x.arityOf(rel));
        QUESTIONS.put("instanceSize(" + rel + ")", x -> x.instanceSize(rel));
        QUESTIONS.put("declare(" + rel + ", 1)", x -> x.declare(rel, 1));
        for (int i = 0; i < (rel == 0 ? 3 : 9); i++) {
            int a = rel == 0 ? i : i / 3;
            int b = rel == 0 ? 0 : i % 3;
            QUESTIONS.put("boundOf(" + rel + ", " + a + ", " + b + ")", x -> x.boundOf(rel, a, b));
            QUESTIONS.put("has(" + rel + ", " + a + ", " + b + ")", x -> x.has(rel, a, b));
            QUESTIONS.put("bound(" + rel + ", " + a + ", " + b + ", 1)", x -> x.bound(rel, a, b, 1));
        }
    }

    static void none(Due due, String told, Consumer<RelationFinder> calls) {
        List<Supplier<RelationFinder>> makers = Stages.makers();
        for (int stage = 0; stage < makers.size(); stage++) {
            for (Map.Entry<String, ToIntFunction<RelationFinder>> question : QUESTIONS.entrySet()) {
                RelationFinder called = makers.get(stage).get();
                calls.accept(called);
                RelationFinder spared = makers.get(stage).get();
                due.is(question.getKey() + " after " + told + " in stage " + stage,
                    question.getValue().applyAsInt(called), question.getValue().applyAsInt(spared));
            }
        }
    }
}
