import java.lang.reflect.Constructor;
import java.lang.reflect.Field;
import java.lang.reflect.Method;
import java.lang.reflect.Modifier;
import java.util.Map;
import java.util.TreeMap;
import java.util.TreeSet;

/** The public face: the constants, the constructor and the methods of the document, and no others. */
public final class FaceTest {
    private static final Due DUE = new Due("FaceTest");

    private static final String CONSTANTS = "NOT_SOLVED 0 SAT 1 UNSAT 2 FREE 0 REQUIRE 1 EXCLUDE 2 E_FORMULA 0 "
        + "E_UNARY 1 E_BINARY 2 K_REL 1 K_VAR 2 K_UNIV 3 K_IDEN 4 K_UNION 5 K_INTER 6 K_DIFF 7 K_JOIN 8 K_PRODUCT 9 "
        + "K_TRANSPOSE 10 K_CLOSURE 11 K_IN 12 K_EQ 13 K_SOME 14 K_NO 15 K_ONE 16 K_NOT 17 K_AND 18 K_OR 19 "
        + "K_IMPLIES 20 K_ALL 21 K_EXISTS 22 ERR_ARG -1 ERR_FULL -2 ERR_KIND -3 ERR_STACK -4 ERR_TYPE -5 ERR_BUSY -6 "
        + "ERR_NOT_FORMULA -7 ERR_FREE_VAR -8 ERR_TOO_BIG -9 MAX_ATOMS 4 MAX_RELATIONS 4 MAX_TOKENS 32 MAX_VARS 3 "
        + "MAX_FREE 12";
    private static final String METHODS = "int add(int, int);int arityOf(int);int atoms();"
        + "int bound(int, int, int, int);int boundOf(int, int, int);int declare(int, int);int depth();int freeCount();"
        + "int has(int, int, int);int instanceSize(int);int solve();int stackEntry(int);int status();"
        + "int token(int);int tokenCount();void clearFormula();";

    public static void main(String[] args) throws IllegalAccessException {
        checkClass();
        checkConstants();
        checkMethods();
        DUE.end();
    }

    private static void checkClass() {
        int modifiers = RelationFinder.class.getModifiers();
        DUE.is("public final", Modifier.isPublic(modifiers) && Modifier.isFinal(modifiers), true);
        Constructor<?>[] constructors = RelationFinder.class.getDeclaredConstructors();
        DUE.is("constructors", constructors.length, 1);
        DUE.is("the constructor", constructors[0].toString(), "public RelationFinder(int,int)");
        DUE.is("nested classes", RelationFinder.class.getDeclaredClasses().length, 0);
    }

    private static void checkConstants() throws IllegalAccessException {
        Map<String, Integer> want = new TreeMap<>();
        String[] words = CONSTANTS.split(" ");
        for (int i = 0; i + 1 < words.length; i += 2) {
            want.put(words[i], Integer.valueOf(words[i + 1]));
        }
        Map<String, Integer> got = new TreeMap<>();
        for (Field field : RelationFinder.class.getDeclaredFields()) {
            int modifiers = field.getModifiers();
            if (!Modifier.isPrivate(modifiers)) {
                DUE.is(field.getName() + " is a constant of int", Modifier.toString(modifiers) + field.getType(),
                    "public static finalint");
                got.put(field.getName(), field.getInt(null));
            }
        }
        DUE.is("constants", got, want);
    }

    private static void checkMethods() {
        TreeSet<String> got = new TreeSet<>();
        for (Method method : RelationFinder.class.getDeclaredMethods()) {
            if (!Modifier.isPrivate(method.getModifiers())) {
                DUE.is(method.getName() + "'s modifiers", Modifier.toString(method.getModifiers()), "public");
                StringBuilder told = new StringBuilder(method.getReturnType() + " " + method.getName() + "(");
                for (int i = 0; i < method.getParameterCount(); i++) {
                    told.append(i == 0 ? "" : ", ").append(method.getParameterTypes()[i]);
                }
                got.add(told + ");");
            }
        }
        DUE.is("methods", String.join("", got), METHODS);
        for (Method method : RelationFinder.class.getDeclaredMethods()) {
            boolean publicName = METHODS.contains(" " + method.getName() + "(");
            DUE.is(method.getName() + " is public", Modifier.isPublic(method.getModifiers()), publicName);
        }
    }
}
