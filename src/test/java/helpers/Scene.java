import java.util.ArrayList;
import java.util.List;
import java.util.Map;
import java.util.function.IntSupplier;

/**
 * A PrecRewrite with one symbol for each letter of a small notation:
 * declarations as "+L2 *L4 -P6 !Q5 ^R5 =N1" (P prefix, Q postfix, L left,
 * R right, N nonassociative, then the level), tokens as "a+(-a)!" where a is
 * an atom. Symbols are numbered in the order of LETTERS.
 */
final class Scene {
    private static final String LETTERS = "+*-!^=?~%$#@&<>|";
    private static final String KINDS = "PQLRN";

    /** What every scene of states() declares. */
    static final String DECLARED = "+L2 -P4 =N1";
    /** The token strings of the scenes of states(). */
    static final String[] STRINGS = {"", "a", "a=a=a", "-a+a", "a+", "(((-a)))", "a+a+a+-a", "a=a=a=-a"};
    /** A symbol that no scene of states() declares. */
    static final int FREE = symbol('|');

    final PrecRewrite x;
    final String name;
    private final Check check;

    Scene(Check check, int capacity, String declarations) {
        this(check, capacity, declarations, "");
    }

    private Scene(Check check, int capacity, String declarations, String name) {
        this.check = check;
        this.name = name;
        x = new PrecRewrite(capacity);
        declareAll(declarations);
    }

    /** The object with these tokens, and parsed last if so asked. */
    static Scene state(Check check, String tokens, boolean parsed) {
        Scene scene = new Scene(check, 8, DECLARED, "with '" + tokens + (parsed ? "' parsed" : "' not parsed"));
        scene.add(tokens);
        if (parsed) {
            scene.x.parse();
        }
        return scene;
    }

    /** Objects with and without tokens, full ones, with each kind of result and without one. */
    static List<Scene> states(Check check) {
        List<Scene> all = new ArrayList<>();
        for (String tokens : STRINGS) {
            all.add(state(check, tokens, false));
            all.add(state(check, tokens, true));
        }
        return all;
    }

    static List<Scene> fullStates(Check check) {
        List<Scene> full = states(check);
        full.removeIf(scene -> scene.x.tokenCount() < 8);
        return full;
    }

    static List<Scene> emptyStates(Check check) {
        List<Scene> empty = states(check);
        empty.removeIf(scene -> scene.x.tokenCount() > 0);
        return empty;
    }

    static int symbol(char letter) {
        return LETTERS.indexOf(letter);
    }

    void declareAll(String declarations) {
        for (String one : declarations.trim().split(" +")) {
            if (!one.isEmpty()) {
                int kind = KINDS.indexOf(one.charAt(1)) + 1;
                int level = one.charAt(2) - '0';
                check.due("declare " + one, x.declare(symbol(one.charAt(0)), kind, level), PrecRewrite.OK);
            }
        }
    }

    void add(String tokens) {
        for (char c : tokens.toCharArray()) {
            check.due("addToken " + c, addOne(c), PrecRewrite.OK);
        }
    }

    void set(String tokens) {
        x.clearTokens();
        add(tokens);
    }

    private int addOne(char c) {
        switch (c) {
            case 'a':
                return x.addToken(PrecRewrite.T_ATOM, -1);
            case '(':
                return x.addToken(PrecRewrite.T_OPEN, 16);
            case ')':
                return x.addToken(PrecRewrite.T_CLOSE, Integer.MIN_VALUE);
            default:
                return x.addToken(PrecRewrite.T_OP, symbol(c));
        }
    }

    /** parse() and what both counts then answer. */
    void parses(String tokens, int trees, int forest) {
        set(tokens);
        check.due("parse of " + tokens, x.parse(), trees);
        check.due("treeCount of " + tokens, x.treeCount(), trees);
        check.due("forestSize of " + tokens, x.forestSize(), forest);
    }

    /** Token strings without a tree. */
    void haveNoTree(String... strings) {
        for (String tokens : strings) {
            parses(tokens, PrecRewrite.NO_TREE, 0);
            hasNoShape("of " + tokens);
        }
    }

    /** A token string with one admissible tree, and the root of it. */
    void hasRoot(String tokens, int forest, int root) {
        parses(tokens, PrecRewrite.ONE_TREE, forest);
        check.due("root of " + tokens, x.root(), root);
    }

    /** The one tree: its root, and for each token parent, first and last, as "p:f:l". */
    void shape(int root, String... nodes) {
        check.due("number of nodes told", nodes.length, x.tokenCount());
        check.due("root()", x.root(), root);
        for (int i = 0; i < nodes.length; i++) {
            String[] part = nodes[i].split(":");
            check.due("parent(" + i + ")", x.parent(i), Integer.parseInt(part[0]));
            check.due("spanFirst(" + i + ")", x.spanFirst(i), Integer.parseInt(part[1]));
            check.due("spanLast(" + i + ")", x.spanLast(i), Integer.parseInt(part[2]));
        }
    }

    /** A call that answers what is due and leaves all that can be read as it was. */
    void changesNothing(String call, IntSupplier it, int due) {
        Map<String, Integer> before = State.all(x);
        check.due(call + " " + name, it.getAsInt(), due);
        check.same("after " + call + " " + name, State.all(x), before);
    }

    /** A call that answers OK and leaves no result. */
    void discards(String call, IntSupplier it) {
        check.due(call + " " + name, it.getAsInt(), PrecRewrite.OK);
        hasNoResult("after " + call + " " + name);
    }

    void hasNoResult(String when) {
        check.due("treeCount() " + when, x.treeCount(), PrecRewrite.NO_RESULT);
        check.due("forestSize() " + when, x.forestSize(), PrecRewrite.NO_RESULT);
        hasNoShape(when);
    }

    void hasNoShape(String when) {
        check.due("root() " + when, x.root(), PrecRewrite.INVALID);
        for (int i = 0; i < 16; i++) {
            positionIsInvalid(when, i);
        }
        positionsOutsideAreInvalid(when);
    }

    void positionsOutsideAreInvalid(String when) {
        for (int i : Range.outside(0, x.tokenCount() - 1)) {
            positionIsInvalid(when, i);
        }
    }

    private void positionIsInvalid(String when, int i) {
        check.due("parent(" + i + ") " + when, x.parent(i), PrecRewrite.INVALID);
        check.due("spanFirst(" + i + ") " + when, x.spanFirst(i), PrecRewrite.INVALID);
        check.due("spanLast(" + i + ") " + when, x.spanLast(i), PrecRewrite.INVALID);
    }
}
