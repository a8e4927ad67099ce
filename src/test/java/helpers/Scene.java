/**
 * A PrecRewrite with one symbol for each letter of a small notation:
 * declarations as "+L2 *L4 -P6 !Q5 ^R5 =N1" (P prefix, Q postfix, L left,
 * R right, N nonassociative, then the level), tokens as "a+(-a)!" where a is
 * an atom. Symbols are numbered in the order of LETTERS.
 */
final class Scene {
    private static final String LETTERS = "+*-!^=?~%$#@&<>|";
    private static final String KINDS = "PQLRN";

    final PrecRewrite x;
    private final Check check;

    Scene(Check check, int capacity, String declarations) {
        this.check = check;
        x = new PrecRewrite(capacity);
        declareAll(declarations);
    }

    static int symbol(char letter) {
        return LETTERS.indexOf(letter);
    }

    void declareAll(String declarations) {
        for (String one : declarations.trim().split(" +")) {
            if (!one.isEmpty()) {
                int kind = KINDS.indexOf(one.charAt(1)) + 1;
                int level = one.charAt(2) - '0';
                check.due("declare " + one, x.declare(symbol(one.charAt(0)), kind, level), PrecRewrite.OK);
            }
        }
    }

    void add(String tokens) {
        for (char c : tokens.toCharArray()) {
            check.due("addToken " + c, addOne(c), PrecRewrite.OK);
        }
    }

    void set(String tokens) {
        x.clearTokens();
        add(tokens);
    }

    private int addOne(char c) {
        switch (c) {
            case 'a':
                return x.addToken(PrecRewrite.T_ATOM, -1);
            case '(':
                return x.addToken(PrecRewrite.T_OPEN, 16);
            case ')':
                return x.addToken(PrecRewrite.T_CLOSE, Integer.MIN_VALUE);
            default:
                return x.addToken(PrecRewrite.T_OP, symbol(c));
        }
    }

    /** parse() and what both counts then answer. */
    void parses(String tokens, int trees, int forest) {
        set(tokens);
        check.due("parse of " + tokens, x.parse(), trees);
        check.due("treeCount of " + tokens, x.treeCount(), trees);
        check.due("forestSize of " + tokens, x.forestSize(), forest);
    }

    /** The one tree: its root, and for each token parent, first and last, as "p:f:l". */
    void shape(int root, String... nodes) {
        check.due("number of nodes told", nodes.length, x.tokenCount());
        check.due("root()", x.root(), root);
        for (int i = 0; i < nodes.length; i++) {
            String[] part = nodes[i].split(":");
            check.due("parent(" + i + ")", x.parent(i), Integer.parseInt(part[0]));
            check.due("spanFirst(" + i + ")", x.spanFirst(i), Integer.parseInt(part[1]));
            check.due("spanLast(" + i + ")", x.spanLast(i), Integer.parseInt(part[2]));
        }
    }

    void hasNoResult(String when) {
        check.due("treeCount() " + when, x.treeCount(), PrecRewrite.NO_RESULT);
        check.due("forestSize() " + when, x.forestSize(), PrecRewrite.NO_RESULT);
        hasNoShape(when);
    }

    void hasNoShape(String when) {
        check.due("root() " + when, x.root(), PrecRewrite.INVALID);
        for (int i = -2; i <= 18; i++) {
            positionIsInvalid(when, i);
        }
        positionIsInvalid(when, Integer.MIN_VALUE);
        positionIsInvalid(when, Integer.MAX_VALUE);
    }

    void positionIsInvalid(String when, int i) {
        check.due("parent(" + i + ") " + when, x.parent(i), PrecRewrite.INVALID);
        check.due("spanFirst(" + i + ") " + when, x.spanFirst(i), PrecRewrite.INVALID);
        check.due("spanLast(" + i + ") " + when, x.spanLast(i), PrecRewrite.INVALID);
    }
}
