import java.lang.reflect.Constructor;
import java.lang.reflect.Field;
import java.lang.reflect.Method;
import java.lang.reflect.Modifier;
import java.util.Set;
import java.util.TreeSet;

/** The public face of the document, no more and no less. */
final class FaceTest {
    private static final String[] CONSTANTS = {"OK=0", "BAD_SYMBOL=1", "BAD_KIND=2", "BAD_LEVEL=3", "DECLARED=4",
        "LEVEL_CLASH=5", "UNDECLARED=6", "FULL=7", "EMPTY=8", "PREFIX=1", "POSTFIX=2", "LEFT=3", "RIGHT=4",
        "NONASSOC=5", "T_ATOM=1", "T_OP=2", "T_OPEN=3", "T_CLOSE=4", "NO_RESULT=-1", "NONE=-1", "INVALID=-2",
        "NO_TREE=0", "ONE_TREE=1", "MANY_TREES=2", "FOREST_CAP=1000000", "SYMBOL_COUNT=16", "LEVEL_MIN=1",
        "LEVEL_MAX=6", "CAPACITY_MIN=8", "CAPACITY_MAX=16"};

    private static final String[] METHODS = {"int declare/3", "int undeclare/1", "int kindOf/1", "int levelOf/1",
        "int addToken/2", "int removeLast/0", "void clearTokens/0", "int tokenCount/0", "int tokenAt/1",
        "int parse/0", "int treeCount/0", "int forestSize/0", "int root/0", "int parent/1", "int spanFirst/1",
        "int spanLast/1"};

    private static Set<String> constants() throws IllegalAccessException {
        Set<String> found = new TreeSet<>();
        for (Field f : PrecRewrite.class.getDeclaredFields()) {
            if (!Modifier.isPrivate(f.getModifiers())) {
                int all = Modifier.PUBLIC | Modifier.STATIC | Modifier.FINAL;
                boolean isConstant = f.getModifiers() == all && f.getType() == int.class;
                found.add(isConstant ? f.getName() + "=" + f.getInt(null) : "not a constant: " + f);
            }
        }
        return found;
    }

    private static Set<String> methods() {
        Set<String> found = new TreeSet<>();
        for (Method m : PrecRewrite.class.getDeclaredMethods()) {
            if (!Modifier.isPrivate(m.getModifiers())) {
                boolean isPlain = m.getModifiers() == Modifier.PUBLIC;
                for (Class<?> type : m.getParameterTypes()) {
                    isPlain &= type == int.class;
                }
                String name = m.getReturnType() + " " + m.getName() + "/" + m.getParameterCount();
                found.add(isPlain ? name : "not of the face: " + m);
            }
        }
        return found;
    }

    private static void same(Check check, String what, Set<String> found, String[] due) {
        Set<String> wanted = new TreeSet<>(Set.of(due));
        check.holds(what + " " + found + " are " + wanted, found.equals(wanted));
    }

    public static void main(String[] args) throws IllegalAccessException {
        Check check = new Check();
        same(check, "constants", constants(), CONSTANTS);
        same(check, "methods", methods(), METHODS);
        Constructor<?>[] made = PrecRewrite.class.getDeclaredConstructors();
        check.due("constructors", made.length, 1);
        check.holds("the constructor is public", Modifier.isPublic(made[0].getModifiers()));
        check.holds("the constructor takes one int", made[0].toString().endsWith("PrecRewrite(int)"));
        check.due("modifiers", PrecRewrite.class.getModifiers(), Modifier.PUBLIC | Modifier.FINAL);
        check.due("nested classes", PrecRewrite.class.getDeclaredClasses().length, 0);
        check.end();
    }
}
