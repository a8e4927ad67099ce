/** Promise 3: undeclare. */
final class UndeclareTest {
    private static final int PLUS = Scene.symbol('+');

    private static PrecRewrite withAllDeclared(int kind, int level) {
        PrecRewrite x = new PrecRewrite(8);
        for (int s = 0; s < 16; s++) {
            x.declare(s, kind, level);
        }
        return x;
    }

    private static void refused(Scene scene, int symbol, int due) {
        scene.changesNothing("undeclare(" + symbol + ")", () -> scene.x.undeclare(symbol), due);
    }

    private static void badSymbol(Check check) {
        check.sentence("symbol not in 0..15 -> BAD_SYMBOL.");
        Scene fresh = new Scene(check, 8, "");
        Scene all = new Scene(check, 8, "+L1 *L1 -L1 !L1 ^L1 =L1 ?L1 ~L1 %L1 $L1 #L1 @L1 &L1 <L1 >L1 |L1");
        for (int symbol : Range.outside(0, 15)) {
            refused(fresh, symbol, PrecRewrite.BAD_SYMBOL);
            refused(all, symbol, PrecRewrite.BAD_SYMBOL);
        }
        for (int symbol = 0; symbol <= 15; symbol++) {
            check.due("undeclare(" + symbol + ")", all.x.undeclare(symbol), PrecRewrite.OK);
        }
    }

    private static void undeclared(Check check) {
        check.sentence("symbol undeclared -> UNDECLARED.");
        Scene fresh = new Scene(check, 8, "");
        for (int symbol = 0; symbol < 16; symbol++) {
            refused(fresh, symbol, PrecRewrite.UNDECLARED);
        }
        Scene twice = new Scene(check, 8, Scene.DECLARED);
        check.due("undeclare", twice.x.undeclare(PLUS), PrecRewrite.OK);
        refused(twice, PLUS, PrecRewrite.UNDECLARED);
        refused(twice, PLUS, PrecRewrite.UNDECLARED);
        for (int symbol = 0; symbol < 16; symbol++) {
            PrecRewrite x = withAllDeclared(PrecRewrite.LEFT, 4);
            check.due("undeclare(" + symbol + ")", x.undeclare(symbol), PrecRewrite.OK);
            check.due("undeclare(" + symbol + ") again", x.undeclare(symbol), PrecRewrite.UNDECLARED);
        }
    }

    private static void nothingChanges(Check check) {
        check.sentence("On either answer nothing changes.");
        for (Scene scene : Scene.states(check)) {
            refused(scene, -1, PrecRewrite.BAD_SYMBOL);
            refused(scene, 16, PrecRewrite.BAD_SYMBOL);
            refused(scene, Integer.MIN_VALUE, PrecRewrite.BAD_SYMBOL);
            refused(scene, Integer.MAX_VALUE, PrecRewrite.BAD_SYMBOL);
            refused(scene, Scene.FREE, PrecRewrite.UNDECLARED);
        }
    }

    private static void becomesUndeclared(Check check) {
        check.sentence("Otherwise symbol becomes undeclared (`kindOf` and `levelOf` answer 0 for it), the result is"
                + " discarded, and the answer is OK.");
        for (int declaration = 0; declaration < 30; declaration++) {
            for (int symbol = 0; symbol < 16; symbol++) {
                PrecRewrite x = new PrecRewrite(8);
                x.declare(symbol, declaration / 6 + 1, declaration % 6 + 1);
                check.due("undeclare(" + symbol + ")", x.undeclare(symbol), PrecRewrite.OK);
                check.due("kindOf(" + symbol + ")", x.kindOf(symbol), 0);
                check.due("levelOf(" + symbol + ")", x.levelOf(symbol), 0);
                check.due("declare again", x.declare(symbol, 5 - declaration / 6, 6 - declaration % 6), PrecRewrite.OK);
                check.due("kindOf(" + symbol + ")", x.kindOf(symbol), 5 - declaration / 6);
                check.due("levelOf(" + symbol + ")", x.levelOf(symbol), 6 - declaration % 6);
            }
        }
        for (Scene scene : Scene.states(check)) {
            scene.discards("undeclare", () -> scene.x.undeclare(PLUS));
        }
    }

    private static void othersStay(Check check) {
        check.sentence("Other declarations are unchanged.");
        for (int symbol = 0; symbol < 16; symbol++) {
            PrecRewrite x = withAllDeclared(PrecRewrite.POSTFIX, 6);
            x.undeclare(symbol);
            for (int s = 0; s < 16; s++) {
                check.due("kindOf(" + s + ")", x.kindOf(s), s == symbol ? 0 : PrecRewrite.POSTFIX);
                check.due("levelOf(" + s + ")", x.levelOf(s), s == symbol ? 0 : 6);
            }
        }
    }

    private static void tokensStay(Check check) {
        check.sentence("Tokens are not touched; OP tokens of symbol stay in the string.");
        for (String tokens : new String[] {"", "a", "a+a", "++++++++", "a+(-a)", "(a)-", "+"}) {
            Scene scene = new Scene(check, 8, "+L2 -P6");
            scene.add(tokens);
            var before = State.tokens(scene.x);
            check.due("undeclare", scene.x.undeclare(PLUS), PrecRewrite.OK);
            check.same("after undeclare", State.tokens(scene.x), before);
        }
        Scene scene = new Scene(check, 8, "+L2");
        scene.set("a+a");
        scene.x.undeclare(PLUS);
        check.due("parse()", scene.x.parse(), PrecRewrite.NO_TREE);
        scene.x.declare(PLUS, PrecRewrite.RIGHT, 1);
        check.due("parse() when declared again", scene.x.parse(), PrecRewrite.ONE_TREE);
    }

    private static void levelIsFree(Check check) {
        check.sentence("Once a level holds no declared symbol, any kind may be declared at it again.");
        for (int declaration = 0; declaration < 30; declaration++) {
            for (int kind = 1; kind <= 5; kind++) {
                freesLevel(check, declaration / 6 + 1, declaration % 6 + 1, kind);
            }
        }
    }

    private static void freesLevel(Check check, int held, int level, int kind) {
        PrecRewrite x = withAllDeclared(held, level);
        int early = kind == held ? PrecRewrite.OK : PrecRewrite.LEVEL_CLASH;
        for (int s = 0; s < 15; s++) {
            x.undeclare(s);
        }
        check.due("declare while one is left", x.declare(3, kind, level), early);
        x.undeclare(3);
        check.due("undeclare of the last", x.undeclare(15), PrecRewrite.OK);
        check.due("declare at the freed level", x.declare(4, kind, level), PrecRewrite.OK);
        int late = kind == held ? PrecRewrite.OK : PrecRewrite.LEVEL_CLASH;
        check.due("declare of the old kind", x.declare(5, held, level), late);
    }

    public static void main(String[] args) {
        Check check = new Check();
        badSymbol(check);
        undeclared(check);
        nothingChanges(check);
        becomesUndeclared(check);
        othersStay(check);
        tokensStay(check);
        levelIsFree(check);
        check.end();
    }
}
