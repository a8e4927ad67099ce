/** Promise 11: parse. */
final class ParseTest {
    private static final int NO = PrecRewrite.NO_TREE;
    private static final int ONE = PrecRewrite.ONE_TREE;

    private static void neverRefused(Check check) {
        check.sentence("`parse()` is never refused.");
        check.due("parse() on a fresh object", new PrecRewrite(8).parse(), NO);
        for (String tokens : new String[] {"", "a", "|", "(", ")", "a=a=a", "-a+a", "aaaaaaaa", "||||||||",
            "(((((((("}) {
            Scene scene = new Scene(check, 8, Scene.DECLARED);
            scene.set(tokens);
            int answer = scene.x.parse();
            check.holds("parse of '" + tokens + "' answered " + answer, answer == NO || answer == ONE);
            check.holds("there is a result", scene.x.treeCount() != PrecRewrite.NO_RESULT);
            check.holds("there is a forest", scene.x.forestSize() != PrecRewrite.NO_RESULT);
        }
    }

    private static void replaces(Check check) {
        check.sentence("It makes the result from the current declarations and tokens, replacing any earlier one.");
        Scene scene = new Scene(check, 16, "+L2 =N1 ^R3");
        scene.parses("a+a+a+a+a+a+a+a", ONE, 429);
        scene.parses("a=a=a", NO, 2);
        scene.hasNoShape("without a tree");
        scene.parses("a", ONE, 1);
        scene.shape(0, "-1:0:0");
        scene.positionsOutsideAreInvalid("beyond one token");
        scene.parses("", NO, 0);
        scene.hasNoShape("without a token");
        scene.parses("a+a+a", ONE, 2);
        scene.shape(3, "1:0:0", "3:0:2", "1:2:2", "-1:0:4", "3:4:4");
        scene.x.undeclare(Scene.symbol('+'));
        check.due("parse() when undeclared", scene.x.parse(), NO);
        check.due("forestSize() when undeclared", scene.x.forestSize(), 0);
        scene.hasNoShape("when undeclared");
        scene.x.declare(Scene.symbol('+'), PrecRewrite.RIGHT, 3);
        check.due("parse() when declared anew", scene.x.parse(), ONE);
        scene.shape(1, "1:0:0", "-1:0:4", "3:2:2", "1:2:4", "3:4:4");
        scene.x.undeclare(Scene.symbol('+'));
        scene.x.declare(Scene.symbol('+'), PrecRewrite.NONASSOC, 1);
        check.due("parse() when declared once more", scene.x.parse(), NO);
        check.due("forestSize() when declared once more", scene.x.forestSize(), 2);
    }

    // Every table of the object is filled by the long parse, and none of it may be left in the short one.
    private static void replacesLongByShort(Check check) {
        check.sentence("from the current declarations and tokens");
        Scene scene = new Scene(check, 16, "+L2 -P6 !Q5");
        for (String shorter : new String[] {"a+", "-", "(", "a+a)", "(a", "-a+", "a+a+a+)"}) {
            scene.parses("(((((((a)))))))", ONE, 1);
            scene.parses("-a!+-a!+-a!+-a!", ONE, 858);
            scene.haveNoTree(shorter);
        }
        scene.parses("a+a+a+a+a+a+a+a", ONE, 429);
        for (int left = 15; left > 0; left--) {
            int answer = scene.x.parse();
            check.due("parse() of " + left, answer, left % 2);
            scene.x.removeLast();
        }
    }

    private static void resultHolds(Check check) {
        check.sentence("The result holds: the number of admissible trees, the number of trees of the forest, and, if"
                + " exactly one tree is admissible, that tree.");
        Scene scene = new Scene(check, 8, Scene.DECLARED);
        scene.parses("-a+a", ONE, 2);
        scene.shape(2, "2:0:1", "0:1:1", "-1:0:3", "2:3:3");
        scene.parses("a=a=a", NO, 2);
        scene.hasNoShape("of none admissible");
        scene.haveNoTree("a+");
    }

    private static void answersTreeCount(Check check) {
        check.sentence("It answers what `treeCount()` then answers: NO_TREE (0), ONE_TREE (1) or MANY_TREES (2).");
        for (Scene scene : Scene.states(check)) {
            int answer = scene.x.parse();
            check.due("treeCount() " + scene.name, scene.x.treeCount(), answer);
        }
    }

    private static void again(Check check) {
        check.sentence("Calling it again without a change in between gives the same result.");
        for (Scene scene : Scene.states(check)) {
            int first = scene.x.parse();
            var before = State.result(scene.x);
            for (int i = 0; i < 3; i++) {
                check.due("parse() again " + scene.name, scene.x.parse(), first);
                check.same("after parse() again " + scene.name, State.result(scene.x), before);
            }
        }
    }

    private static void changesNeither(Check check) {
        check.sentence("It changes neither declarations nor tokens.");
        for (Scene scene : Scene.states(check)) {
            var declarations = State.declarations(scene.x);
            var tokens = State.tokens(scene.x);
            scene.x.parse();
            check.same("after parse() " + scene.name, State.declarations(scene.x), declarations);
            check.same("after parse() " + scene.name, State.tokens(scene.x), tokens);
        }
    }

    private static void noToken(Check check) {
        check.sentence("with n == 0 the forest is empty, so the answer is NO_TREE and the forest size is 0.");
        Scene scene = new Scene(check, 8, "");
        scene.haveNoTree("");
        scene.declareAll("+L2 -P6");
        scene.haveNoTree("");
        scene.parses("-a+a", ONE, 2);
        scene.x.clearTokens();
        check.due("parse() after clearTokens()", scene.x.parse(), NO);
        check.due("forestSize() after clearTokens()", scene.x.forestSize(), 0);
        scene.parses("a", ONE, 1);
        scene.x.removeLast();
        check.due("parse() after removeLast()", scene.x.parse(), NO);
        check.due("forestSize() after removeLast()", scene.x.forestSize(), 0);
        scene.hasNoShape("after removeLast()");
    }

    private static void undeclaredSymbol(Check check) {
        check.sentence("If any token is OP s with s undeclared, no tree covers that token, so the forest is empty.");
        String whole = "a+(-a!)+-(a+a)!";
        Scene scene = new Scene(check, 16, "+L2 -P6 !Q5");
        scene.parses(whole, ONE, 14);
        for (int i = 0; i < whole.length(); i++) {
            scene.haveNoTree(whole.substring(0, i) + "|" + whole.substring(i + 1));
            scene.haveNoTree(whole.substring(0, i) + "|" + whole.substring(i));
        }
        scene.haveNoTree("|", whole + "|", "a|a", "|a", "a|", "(|)", "||");
    }

    private static void eachSymbolUndeclared(Check check) {
        check.sentence("OP s with s undeclared");
        for (int symbol = 0; symbol < 16; symbol++) {
            Scene scene = new Scene(check, 8, "");
            for (int kind = 1; kind <= 5; kind++) {
                String before = kind == PrecRewrite.PREFIX ? "" : "a";
                String after = kind == PrecRewrite.POSTFIX ? "" : "a";
                scene.set(before);
                scene.x.addToken(PrecRewrite.T_OP, symbol);
                scene.add(after);
                check.due("parse() before declare", scene.x.parse(), NO);
                check.due("forestSize() before declare", scene.x.forestSize(), 0);
                scene.x.declare(symbol, kind, kind);
                check.due("parse() with kind " + kind, scene.x.parse(), ONE);
                scene.x.undeclare(symbol);
                check.due("parse() after undeclare", scene.x.parse(), NO);
                check.due("forestSize() after undeclare", scene.x.forestSize(), 0);
            }
        }
    }

    private static void doesNotFit(Check check) {
        check.sentence("OP tokens whose symbol is declared but whose kind does not fit a position simply form no node"
                + " there.");
        Scene scene = new Scene(check, 16, "+L2 ^R3 =N1 -P4 !Q6");
        scene.haveNoTree("+", "^", "=", "-", "!");
        scene.haveNoTree("+a", "^a", "=a", "!a", "a+", "a^", "a=", "a-");
        scene.haveNoTree("a-a", "a!a", "-!", "-+", "+!", "a++a", "a^=a", "a!-a", "a-+a", "a-!");
        scene.haveNoTree("(+)", "(-)", "(!)", "(a+)a", "a+()", "a(+a)", "-(+a)", "(a-)!", "(!a)", "a+(a-)");
        scene.parses("a+-a", ONE, 1);
        scene.parses("a!+a", ONE, 1);
        scene.parses("-a", ONE, 1);
        scene.parses("a!", ONE, 1);
    }

    public static void main(String[] args) {
        Check check = new Check();
        neverRefused(check);
        replaces(check);
        replacesLongByShort(check);
        resultHolds(check);
        answersTreeCount(check);
        again(check);
        changesNeither(check);
        noToken(check);
        undeclaredSymbol(check);
        eachSymbolUndeclared(check);
        doesNotFit(check);
        check.end();
    }
}
