import java.util.Arrays;

/** The document's terms: the token string and its trees. */
final class TreesTest {
    private static final int ONE = PrecRewrite.ONE_TREE;
    private static final String OPERATORS = "-P1 +L2 ^R3 !Q4 =N5";

    private static Scene scene(Check check) {
        return new Scene(check, 16, OPERATORS);
    }

    private static void emptyAndFull(Check check) {
        check.sentence("The token string is t[0..n-1] with 0 <= n <= capacity.");
        for (int capacity = 8; capacity <= 16; capacity++) {
            Scene full = new Scene(check, capacity, OPERATORS);
            full.haveNoTree("");
            full.hasRoot("-".repeat(capacity - 1) + "a", 1, 0);
            full.hasRoot("a" + "!".repeat(capacity - 1), 1, capacity - 1);
            check.due("addToken", full.x.addToken(PrecRewrite.T_ATOM, 0), PrecRewrite.FULL);
            check.due("parse() of all " + capacity, full.x.parse(), ONE);
            check.due("spanLast of the last", full.x.spanLast(capacity - 1), capacity - 1);
            for (String token : new String[] {"a", "(", ")", "-", "!", "+", "^", "=", "|"}) {
                full.haveNoTree(token.repeat(capacity), token.repeat(capacity - 1));
            }
        }
    }

    private static void everyToken(Check check) {
        check.sentence("Each token is ATOM, OP s (s in 0..15, declared or not), OPEN or CLOSE.");
        Scene scene = scene(check);
        scene.add("a()");
        int[] codes = {16, 48, 64};
        for (int i = 0; i < 3; i++) {
            check.due("tokenAt(" + i + ")", scene.x.tokenAt(i), codes[i]);
        }
        for (int s = 0; s < 16; s++) {
            check.due("addToken OP " + s, scene.x.addToken(PrecRewrite.T_OP, s), PrecRewrite.OK);
            check.due("tokenAt(3)", scene.x.tokenAt(3), 32 + s);
            scene.x.removeLast();
        }
        check.due("addToken OP -1", scene.x.addToken(PrecRewrite.T_OP, -1), PrecRewrite.BAD_SYMBOL);
        check.due("addToken OP 16", scene.x.addToken(PrecRewrite.T_OP, 16), PrecRewrite.BAD_SYMBOL);
    }

    private static void atom(Check check) {
        check.sentence("ATOM node: i == j and t[i] is ATOM. No child.");
        Scene scene = scene(check);
        scene.parses("a", ONE, 1);
        scene.shape(0, "-1:0:0");
        scene.haveNoTree("aa", "aaa", "aaaaaaaaaaaaaaaa", "(aa)", "-aa", "aa!", "a+aa", "aa+a");
        scene.haveNoTree("(", ")", "+", "-", "!", "^", "=", "|");
    }

    private static void paren(Check check) {
        check.sentence("PAREN node: j >= i+2, t[i] is OPEN, t[j] is CLOSE; child: a tree of [i+1..j-1].");
        Scene scene = scene(check);
        scene.parses("(a)", ONE, 1);
        scene.shape(0, "-1:0:2", "0:1:1", "-1:0:2");
        scene.hasRoot("((a))", 1, 0);
        scene.hasRoot("(((((((a)))))))", 1, 0);
        scene.haveNoTree("()", ")(", "(())", "()a", "a()", "-()", "()!", "a+()", "(a+())");
        scene.haveNoTree("(a", "a)", ")a(", "(a(", ")a)", "(a))", "((a)", "(a)(a)", "(a)a", "a(a)", "(aa)");
        scene.haveNoTree("(a+)a", "a(+a)", "(a)+(a", "(a+a))", "((a+a)");
    }

    private static void prefix(Check check) {
        check.sentence("PREFIX node: j > i, t[i] is OP s, s declared PREFIX; child: a tree of [i+1..j].");
        Scene scene = scene(check);
        scene.parses("-a", ONE, 1);
        scene.shape(0, "-1:0:1", "0:1:1");
        scene.parses("-(a)", ONE, 1);
        scene.shape(0, "-1:0:3", "0:1:3", "1:2:2", "0:1:3");
        scene.haveNoTree("-", "--", "a-", "-a-", "(-)", "-)", "-(", "-aa", "a-a", "+a", "!a", "^a", "=a", "|a");
    }

    private static void postfix(Check check) {
        check.sentence("POSTFIX node: j > i, t[j] is OP s, s declared POSTFIX; child: a tree of [i..j-1].");
        Scene scene = scene(check);
        scene.parses("a!", ONE, 1);
        scene.shape(1, "1:0:0", "-1:0:1");
        scene.parses("(a)!", ONE, 1);
        scene.shape(3, "3:0:2", "0:1:1", "3:0:2", "-1:0:3");
        scene.haveNoTree("!", "!!", "!a", "!a!", "(!)", "(!", ")!", "aa!", "a!a", "a+", "a-", "a^", "a=", "a|");
    }

    private static void infix(Check check) {
        check.sentence("INFIX node: i < k < j, t[k] is OP s, s declared LEFT, RIGHT or NONASSOC; left child a tree of"
                + " [i..k-1], right child a tree of [k+1..j].");
        Scene scene = scene(check);
        for (String operator : new String[] {"+", "^", "="}) {
            scene.parses("a" + operator + "a", ONE, 1);
            scene.shape(1, "1:0:0", "-1:0:2", "1:2:2");
            scene.hasRoot("(a)" + operator + "a", 1, 3);
            scene.hasRoot("a" + operator + "(a)", 1, 1);
            scene.haveNoTree(operator, operator + "a", "a" + operator, operator + operator, "(" + operator + ")");
            scene.haveNoTree("a" + operator + operator + "a", "(a" + operator + ")a", "a(" + operator + "a)");
        }
        scene.haveNoTree("a-a", "a!a", "a|a");
    }

    private static void undeclared(Check check) {
        check.sentence("An OP token of an undeclared symbol is in no node, so no tree covers it.");
        Scene scene = scene(check);
        scene.haveNoTree("|", "|a", "a|", "a|a", "(|)", "(a|a)", "a+|a", "|a+a", "a+a|", "-|", "|!", "||");
        scene.x.declare(Scene.FREE, PrecRewrite.PREFIX, 6);
        scene.hasRoot("|a", 1, 0);
        scene.x.undeclare(Scene.FREE);
        scene.haveNoTree("|a");
    }

    private static void symbolDecides(Check check) {
        check.sentence("The level and kind of a PREFIX, POSTFIX or INFIX node are those of its symbol.");
        PrecRewrite infix = new PrecRewrite(8);
        PrecRewrite prefix = new PrecRewrite(8);
        PrecRewrite postfix = new PrecRewrite(8);
        for (int s = 0; s < 16; s++) {
            infix.declare(s, PrecRewrite.LEFT, s % 6 + 1);
            boolean isInfix = s % 2 == 0;
            prefix.declare(s, isInfix ? PrecRewrite.LEFT : PrecRewrite.PREFIX, s % 6 + 1);
            postfix.declare(s, isInfix ? PrecRewrite.LEFT : PrecRewrite.POSTFIX, s % 6 + 1);
        }
        for (int pair = 0; pair < 256; pair++) {
            int one = pair / 16;
            int two = pair % 16;
            hasRoot(check, infix, two % 6 > one % 6 ? 1 : 3, -1, one, -1, two, -1);
            if (one % 2 == 1 && two % 2 == 0) {
                hasRoot(check, prefix, one % 6 > two % 6 ? 2 : 0, one, -1, two, -1);
                hasRoot(check, postfix, one % 6 > two % 6 ? 1 : 3, -1, two, -1, one);
            }
        }
    }

    /** The root of a string of symbols, where -1 stands for an atom. */
    private static void hasRoot(Check check, PrecRewrite x, int root, int... symbols) {
        x.clearTokens();
        for (int symbol : symbols) {
            x.addToken(symbol < 0 ? PrecRewrite.T_ATOM : PrecRewrite.T_OP, symbol);
        }
        check.due("parse() of " + Arrays.toString(symbols), x.parse(), ONE);
        check.due("root() of " + Arrays.toString(symbols), x.root(), root);
    }

    private static void emptyForest(Check check) {
        check.sentence("The forest is the set of trees of [0..n-1]; it is empty when n == 0.");
        Scene scene = scene(check);
        scene.haveNoTree("");
        scene.parses("a", ONE, 1);
        scene.haveNoTree("");
        scene.haveNoTree("aa", "a+a+", "+a+a", "a+aa+a", "a)(a");
    }

    private static void equalTrees(Check check) {
        check.sentence("Two trees are equal iff they have the same nodes (same node kinds, same spans, same INFIX split"
                + " k).");
        Scene scene = scene(check);
        scene.parses("--a", ONE, 1);
        scene.parses("a!!", ONE, 1);
        scene.parses("-a!", ONE, 2);
        scene.parses("-a+a", ONE, 2);
        scene.parses("a+a!", ONE, 2);
        scene.parses("a+-a", ONE, 1);
        scene.parses("a!+a", ONE, 1);
        scene.parses("a+a+a", ONE, 2);
        scene.parses("a=a=a", PrecRewrite.NO_TREE, 2);
        scene.parses("a+a^a", ONE, 2);
        scene.parses("(a+a)+a", ONE, 1);
        scene.parses("(-a!)+(-a!)", ONE, 4);
        scene.parses("--a!!", ONE, 6);
    }

    private static void identifyingTokens(Check check) {
        check.sentence("The identifying token of a node: ATOM node -> its atom; PAREN node -> its OPEN; PREFIX,"
                + " POSTFIX, INFIX node -> its OP token.");
        Scene scene = scene(check);
        scene.hasRoot("a", 1, 0);
        scene.hasRoot("(a+a)", 1, 0);
        scene.hasRoot("-a!", 2, 0);
        scene.hasRoot("(a)!", 1, 3);
        scene.hasRoot("(a)+a", 1, 3);
        scene.parses("-(a!^a)", ONE, 1);
        scene.shape(0, "-1:0:6", "0:1:6", "3:2:2", "4:2:3", "1:2:5", "4:5:5", "0:1:6");
    }

    private static void closeTokens(Check check) {
        check.sentence("for a CLOSE token, it is the PAREN node whose span ends at i");
        Scene scene = scene(check);
        scene.parses("((a)+(a))!", ONE, 1);
        scene.shape(9, "9:0:8", "4:1:3", "1:2:2", "4:1:3", "0:1:7", "4:5:7", "5:6:6", "4:5:7", "9:0:8", "-1:0:9");
    }

    private static void oneNodeEach(Check check) {
        check.sentence("In every tree each token has exactly one node.");
        Scene scene = scene(check);
        for (String tokens : new String[] {"a", "(a)", "-a!", "a+a^a", "((a+a)!^-(-a)^a)", "-a+(a^a^a!)=a+a",
            "a+a+a+a+a+a+a+a", "-(-(-(-(-(a)))))", "((a)+(a))!", "a^-a!+a=(-a)"}) {
            scene.set(tokens);
            check.due("parse of " + tokens, scene.x.parse(), ONE);
            for (int i = 0; i < tokens.length(); i++) {
                hasItsPlace(check, scene.x, i, "token " + i + " of " + tokens);
            }
        }
    }

    /** The node of the token lies around the token and inside the node above it. */
    private static void hasItsPlace(Check check, PrecRewrite x, int i, String what) {
        check.holds(what + " is in its span", x.spanFirst(i) >= 0 && x.spanFirst(i) <= i && x.spanLast(i) >= i);
        int above = x.parent(i);
        if (above == PrecRewrite.NONE) {
            check.due("spanFirst at the root, " + what, x.spanFirst(i), 0);
            check.due("spanLast at the root, " + what, x.spanLast(i), x.tokenCount() - 1);
            check.due("spanFirst of root(), " + what, x.spanFirst(x.root()), 0);
        } else {
            int length = x.spanLast(i) - x.spanFirst(i);
            check.holds(what + " starts inside", x.spanFirst(above) <= x.spanFirst(i));
            check.holds(what + " ends inside", x.spanLast(above) >= x.spanLast(i));
            check.holds(what + " is shorter", x.spanLast(above) - x.spanFirst(above) > length);
            check.holds(what + " is beside the one above", above < x.spanFirst(i) || above > x.spanLast(i));
        }
    }

    public static void main(String[] args) {
        Check check = new Check();
        emptyAndFull(check);
        everyToken(check);
        atom(check);
        paren(check);
        prefix(check);
        postfix(check);
        infix(check);
        undeclared(check);
        symbolDecides(check);
        emptyForest(check);
        equalTrees(check);
        identifyingTokens(check);
        closeTokens(check);
        oneNodeEach(check);
        check.end();
    }
}
