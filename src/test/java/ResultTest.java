/** The document's terms: which calls keep the result and which discard it. */
final class ResultTest {
    private static final int PLUS = Scene.symbol('+');

    private static Scene parsed(Check check) {
        Scene scene = Scene.state(check, "-a+a", true);
        isKept(check, scene, "after parse");
        return scene;
    }

    private static void isKept(Check check, Scene scene, String when) {
        check.due("treeCount() " + when, scene.x.treeCount(), PrecRewrite.ONE_TREE);
        check.due("forestSize() " + when, scene.x.forestSize(), 2);
        scene.shape(2, "2:0:1", "0:1:1", "-1:0:3", "2:3:3");
        scene.positionsOutsideAreInvalid(when);
    }

    private static void keptByReading(Check check) {
        check.sentence("It is kept until a call that discards it; each promise below says whether the call does.");
        Scene scene = parsed(check);
        for (int round = 0; round < 3; round++) {
            State.all(scene.x);
            isKept(check, scene, "after every reading call");
        }
    }

    private static void absent(Check check) {
        check.sentence("Without a result, `treeCount()` and `forestSize()` answer NO_RESULT, and `root()`, `parent(i)`,"
                + " `spanFirst(i)`, `spanLast(i)` answer INVALID.");
        new Scene(check, 8, "").hasNoResult("on a fresh object");
        for (String tokens : Scene.STRINGS) {
            Scene scene = Scene.state(check, tokens, false);
            scene.hasNoResult(scene.name);
        }
        Scene declared = parsed(check);
        declared.discards("declare", () -> declared.x.declare(Scene.FREE, PrecRewrite.POSTFIX, 5));
        Scene undeclared = parsed(check);
        undeclared.discards("undeclare of a symbol in no token", () -> undeclared.x.undeclare(Scene.symbol('=')));
        Scene longer = parsed(check);
        longer.discards("addToken", () -> longer.x.addToken(PrecRewrite.T_ATOM, 0));
        Scene shorter = parsed(check);
        shorter.discards("removeLast", shorter.x::removeLast);
        Scene cleared = parsed(check);
        cleared.x.clearTokens();
        cleared.hasNoResult("after clearTokens");
    }

    private static void doesNotComeBack(Check check) {
        check.sentence("`parse()` makes a result from the current declarations and tokens.");
        Scene scene = parsed(check);
        scene.x.addToken(PrecRewrite.T_ATOM, 0);
        scene.x.removeLast();
        scene.hasNoResult("after addToken and removeLast");
        scene = parsed(check);
        scene.x.undeclare(PLUS);
        scene.x.declare(PLUS, PrecRewrite.LEFT, 2);
        scene.hasNoResult("after undeclare and declare");
        check.due("parse()", scene.x.parse(), PrecRewrite.ONE_TREE);
        isKept(check, scene, "after parse again");
    }

    private static void refusedCallsKeep(Check check) {
        check.sentence("A refused call (declare, undeclare, addToken or removeLast answering anything other than OK)"
                + " changes nothing, the result included.");
        Scene scene = parsed(check);
        check.due("declare", scene.x.declare(16, 1, 1), PrecRewrite.BAD_SYMBOL);
        isKept(check, scene, "after declare(16, 1, 1)");
        check.due("declare", scene.x.declare(Scene.FREE, 0, 1), PrecRewrite.BAD_KIND);
        isKept(check, scene, "after BAD_KIND");
        check.due("declare", scene.x.declare(Scene.FREE, 1, 7), PrecRewrite.BAD_LEVEL);
        isKept(check, scene, "after BAD_LEVEL");
        check.due("declare", scene.x.declare(PLUS, PrecRewrite.LEFT, 2), PrecRewrite.DECLARED);
        isKept(check, scene, "after DECLARED");
        check.due("declare", scene.x.declare(Scene.FREE, PrecRewrite.RIGHT, 2), PrecRewrite.LEVEL_CLASH);
        isKept(check, scene, "after LEVEL_CLASH");
        check.due("undeclare", scene.x.undeclare(-1), PrecRewrite.BAD_SYMBOL);
        isKept(check, scene, "after undeclare(-1)");
        check.due("undeclare", scene.x.undeclare(Scene.FREE), PrecRewrite.UNDECLARED);
        isKept(check, scene, "after UNDECLARED");
        check.due("addToken", scene.x.addToken(5, 0), PrecRewrite.BAD_KIND);
        isKept(check, scene, "after addToken(5, 0)");
        check.due("addToken", scene.x.addToken(PrecRewrite.T_OP, 16), PrecRewrite.BAD_SYMBOL);
        isKept(check, scene, "after addToken(2, 16)");
    }

    private static void refusedAtTheEndsKeep(Check check) {
        check.sentence("changes nothing, the result included");
        Scene scene = new Scene(check, 8, Scene.DECLARED);
        scene.parses("a+a+a+-a", PrecRewrite.ONE_TREE, 5);
        check.due("addToken", scene.x.addToken(PrecRewrite.T_ATOM, 0), PrecRewrite.FULL);
        check.due("treeCount() after FULL", scene.x.treeCount(), PrecRewrite.ONE_TREE);
        check.due("forestSize() after FULL", scene.x.forestSize(), 5);
        scene.shape(5, "1:0:0", "3:0:2", "1:2:2", "5:0:4", "3:4:4", "-1:0:7", "5:6:7", "6:7:7");
        scene.parses("", PrecRewrite.NO_TREE, 0);
        check.due("removeLast", scene.x.removeLast(), PrecRewrite.EMPTY);
        check.due("treeCount() after EMPTY", scene.x.treeCount(), PrecRewrite.NO_TREE);
        check.due("forestSize() after EMPTY", scene.x.forestSize(), 0);
    }

    private static void refusedCallsMakeNone(Check check) {
        check.sentence("A refused call (declare, undeclare, addToken or removeLast answering anything other than OK)"
                + " changes nothing");
        Scene scene = new Scene(check, 8, "");
        check.due("removeLast", scene.x.removeLast(), PrecRewrite.EMPTY);
        scene.hasNoResult("after EMPTY");
        check.due("undeclare", scene.x.undeclare(3), PrecRewrite.UNDECLARED);
        scene.hasNoResult("after UNDECLARED");
        check.due("declare", scene.x.declare(3, 3, 0), PrecRewrite.BAD_LEVEL);
        scene.hasNoResult("after BAD_LEVEL");
        scene.add("aaaaaaaa");
        check.due("addToken", scene.x.addToken(PrecRewrite.T_ATOM, 0), PrecRewrite.FULL);
        scene.hasNoResult("after FULL");
    }

    public static void main(String[] args) {
        Check check = new Check();
        keptByReading(check);
        absent(check);
        doesNotComeBack(check);
        refusedCallsKeep(check);
        refusedAtTheEndsKeep(check);
        refusedCallsMakeNone(check);
        check.end();
    }
}
