/**
 * Promises 2, 3, 6 to 8 and 11 to 16: which calls make, keep and discard the
 * result.
 */
final class ResultTest {
    private static final int PLUS = Scene.symbol('+');

    private static Scene parsed(Check check) {
        Scene scene = new Scene(check, 8, "+L2 -P4");
        scene.parses("-a+a", PrecRewrite.ONE_TREE, 2);
        isKept(check, scene, "after parse");
        return scene;
    }

    private static void isKept(Check check, Scene scene, String when) {
        check.due("treeCount() " + when, scene.x.treeCount(), PrecRewrite.ONE_TREE);
        check.due("forestSize() " + when, scene.x.forestSize(), 2);
        scene.shape(2, "2:0:1", "0:1:1", "-1:0:3", "2:3:3");
        for (int i : new int[] {-1, 4, 5, 15, 16, Integer.MIN_VALUE, Integer.MAX_VALUE}) {
            scene.positionIsInvalid(when, i);
        }
    }

    private static void discards(Check check) {
        Scene scene = parsed(check);
        check.due("declare", scene.x.declare(9, PrecRewrite.LEFT, 2), PrecRewrite.OK);
        scene.hasNoResult("after declare");
        scene = parsed(check);
        check.due("undeclare", scene.x.undeclare(PLUS), PrecRewrite.OK);
        scene.hasNoResult("after undeclare");
        scene = parsed(check);
        check.due("addToken", scene.x.addToken(PrecRewrite.T_ATOM, 0), PrecRewrite.OK);
        scene.hasNoResult("after addToken");
        scene = parsed(check);
        check.due("removeLast", scene.x.removeLast(), PrecRewrite.OK);
        scene.hasNoResult("after removeLast");
        scene = parsed(check);
        scene.x.clearTokens();
        scene.hasNoResult("after clearTokens");
        check.due("parse of nothing", scene.x.parse(), PrecRewrite.NO_TREE);
        check.due("forestSize of nothing", scene.x.forestSize(), 0);
        scene.x.clearTokens();
        scene.hasNoResult("after clearTokens of nothing");
    }

    private static void changesAndBack(Check check) {
        Scene scene = parsed(check);
        scene.x.addToken(PrecRewrite.T_ATOM, 0);
        scene.x.removeLast();
        scene.hasNoResult("after addToken and removeLast");
        scene = parsed(check);
        scene.x.undeclare(PLUS);
        scene.x.declare(PLUS, PrecRewrite.LEFT, 2);
        scene.hasNoResult("after undeclare and declare");
        check.due("parse()", scene.x.parse(), PrecRewrite.ONE_TREE);
        isKept(check, scene, "after parse again");
    }

    private static void refusedCallsKeep(Check check) {
        Scene scene = parsed(check);
        check.due("declare", scene.x.declare(16, 1, 1), PrecRewrite.BAD_SYMBOL);
        isKept(check, scene, "after BAD_SYMBOL");
        check.due("declare", scene.x.declare(9, 0, 1), PrecRewrite.BAD_KIND);
        isKept(check, scene, "after BAD_KIND");
        check.due("declare", scene.x.declare(9, 1, 7), PrecRewrite.BAD_LEVEL);
        isKept(check, scene, "after BAD_LEVEL");
        check.due("declare", scene.x.declare(PLUS, PrecRewrite.LEFT, 2), PrecRewrite.DECLARED);
        isKept(check, scene, "after DECLARED");
        check.due("declare", scene.x.declare(9, PrecRewrite.RIGHT, 2), PrecRewrite.LEVEL_CLASH);
        isKept(check, scene, "after LEVEL_CLASH");
        check.due("undeclare", scene.x.undeclare(-1), PrecRewrite.BAD_SYMBOL);
        isKept(check, scene, "after undeclare(-1)");
        check.due("undeclare", scene.x.undeclare(9), PrecRewrite.UNDECLARED);
        isKept(check, scene, "after UNDECLARED");
        check.due("addToken", scene.x.addToken(5, 0), PrecRewrite.BAD_KIND);
        isKept(check, scene, "after addToken(5, 0)");
        check.due("addToken", scene.x.addToken(PrecRewrite.T_OP, 16), PrecRewrite.BAD_SYMBOL);
        isKept(check, scene, "after addToken(2, 16)");
    }

    private static void refusedAtTheEndsKeep(Check check) {
        Scene scene = new Scene(check, 8, "+L2 -P4");
        scene.parses("a+a+a+-a", PrecRewrite.ONE_TREE, 5);
        check.due("addToken", scene.x.addToken(PrecRewrite.T_ATOM, 0), PrecRewrite.FULL);
        check.due("treeCount() after FULL", scene.x.treeCount(), PrecRewrite.ONE_TREE);
        scene.shape(5, "1:0:0", "3:0:2", "1:2:2", "5:0:4", "3:4:4", "-1:0:7", "5:6:7", "6:7:7");
        scene.parses("", PrecRewrite.NO_TREE, 0);
        check.due("removeLast", scene.x.removeLast(), PrecRewrite.EMPTY);
        check.due("treeCount() after EMPTY", scene.x.treeCount(), PrecRewrite.NO_TREE);
        check.due("forestSize() after EMPTY", scene.x.forestSize(), 0);
    }

    private static void readingKeeps(Check check) {
        Scene scene = parsed(check);
        for (int i = -1; i <= 16; i++) {
            scene.x.kindOf(i);
            scene.x.levelOf(i);
            scene.x.tokenAt(i);
            scene.x.tokenCount();
        }
        isKept(check, scene, "after reading");
        for (int i = 0; i < 3; i++) {
            check.due("parse() again", scene.x.parse(), PrecRewrite.ONE_TREE);
            isKept(check, scene, "after parse again");
        }
        check.due("tokenCount() after parse", scene.x.tokenCount(), 4);
        check.due("kindOf after parse", scene.x.kindOf(PLUS), PrecRewrite.LEFT);
    }

    private static void parseReplaces(Check check) {
        Scene scene = parsed(check);
        scene.parses("a+", PrecRewrite.NO_TREE, 0);
        scene.hasNoShape("without a tree");
        scene.parses("a", PrecRewrite.ONE_TREE, 1);
        scene.shape(0, "-1:0:0");
        scene.positionIsInvalid("beyond one token", 1);
        scene.parses("", PrecRewrite.NO_TREE, 0);
        scene.hasNoShape("without a token");
        scene.parses("-a+a", PrecRewrite.ONE_TREE, 2);
        isKept(check, scene, "after other parses");
    }

    public static void main(String[] args) {
        Check check = new Check();
        discards(check);
        changesAndBack(check);
        refusedCallsKeep(check);
        refusedAtTheEndsKeep(check);
        readingKeeps(check);
        parseReplaces(check);
        check.end();
    }
}
