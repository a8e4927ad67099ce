/** Promise 2: declare. */
final class DeclareTest {
    private static final int PLUS = Scene.symbol('+');

    private static void isDeclared(Check check, PrecRewrite x, int symbol, int kind, int level) {
        check.due("kindOf(" + symbol + ")", x.kindOf(symbol), kind);
        check.due("levelOf(" + symbol + ")", x.levelOf(symbol), level);
    }

    private static void refused(Scene scene, int symbol, int kind, int level, int due) {
        String call = "declare(" + symbol + ", " + kind + ", " + level + ")";
        scene.changesNothing(call, () -> scene.x.declare(symbol, kind, level), due);
    }

    private static void badSymbol(Check check) {
        check.sentence("symbol not in 0..15 -> BAD_SYMBOL.");
        Scene scene = new Scene(check, 8, "");
        for (int symbol : Range.outside(0, 15)) {
            refused(scene, symbol, PrecRewrite.LEFT, 3, PrecRewrite.BAD_SYMBOL);
        }
        for (int symbol = 0; symbol <= 15; symbol++) {
            check.due("declare(" + symbol + ")", scene.x.declare(symbol, PrecRewrite.LEFT, 3), PrecRewrite.OK);
        }
    }

    private static void badKind(Check check) {
        check.sentence("kind not in 1..5 -> BAD_KIND.");
        Scene scene = new Scene(check, 8, "");
        for (int kind : Range.outside(1, 5)) {
            refused(scene, 7, kind, 3, PrecRewrite.BAD_KIND);
        }
        for (int kind = 1; kind <= 5; kind++) {
            check.due("declare of kind " + kind, scene.x.declare(kind, kind, kind), PrecRewrite.OK);
        }
    }

    private static void badLevel(Check check) {
        check.sentence("level not in 1..6 -> BAD_LEVEL.");
        Scene scene = new Scene(check, 8, "");
        for (int level : Range.outside(1, 6)) {
            refused(scene, 7, PrecRewrite.LEFT, level, PrecRewrite.BAD_LEVEL);
        }
        for (int level = 1; level <= 6; level++) {
            check.due("declare at " + level, scene.x.declare(level, PrecRewrite.LEFT, level), PrecRewrite.OK);
        }
    }

    private static void declaredAlready(Check check) {
        check.sentence("symbol already declared (with any kind and level, even the same ones) -> DECLARED.");
        for (int symbol : new int[] {0, 1, 14, 15}) {
            for (int first = 0; first < 30; first++) {
                Scene scene = new Scene(check, 8, "");
                scene.x.declare(symbol, first / 6 + 1, first % 6 + 1);
                for (int second = 0; second < 30; second++) {
                    refused(scene, symbol, second / 6 + 1, second % 6 + 1, PrecRewrite.DECLARED);
                }
            }
        }
    }

    private static void levelClash(Check check) {
        check.sentence("another declared symbol has this level and a kind other than kind -> LEVEL_CLASH.");
        for (int held = 0; held < 30; held++) {
            int level = held % 6 + 1;
            for (int kind = 1; kind <= 5; kind++) {
                if (kind != held / 6 + 1) {
                    clashesWith(check, 0, 15, held / 6 + 1, kind, level);
                    clashesWith(check, 15, 0, held / 6 + 1, kind, level);
                    clashesWith(check, 7, 8, held / 6 + 1, kind, level);
                }
            }
        }
    }

    private static void clashesWith(Check check, int holder, int symbol, int held, int kind, int level) {
        Scene scene = new Scene(check, 8, "");
        scene.x.declare(holder, held, level);
        refused(scene, symbol, kind, level, PrecRewrite.LEVEL_CLASH);
        int other = level % 6 + 1;
        check.due("declare at a level of its own", scene.x.declare(symbol, kind, other), PrecRewrite.OK);
        isDeclared(check, scene.x, symbol, kind, other);
    }

    private static void inOrder(Check check) {
        check.sentence("tests in this order; the first test that fails gives the answer and nothing changes");
        Scene scene = new Scene(check, 8, "+L2 *R5");
        for (int symbol : Range.outside(0, 15)) {
            refused(scene, symbol, 0, 1, PrecRewrite.BAD_SYMBOL);
            refused(scene, symbol, 6, 7, PrecRewrite.BAD_SYMBOL);
            refused(scene, symbol, PrecRewrite.LEFT, 0, PrecRewrite.BAD_SYMBOL);
            refused(scene, symbol, PrecRewrite.PREFIX, 2, PrecRewrite.BAD_SYMBOL);
        }
        for (int kind : Range.outside(1, 5)) {
            refused(scene, 9, kind, 0, PrecRewrite.BAD_KIND);
            refused(scene, 9, kind, 7, PrecRewrite.BAD_KIND);
            refused(scene, 9, kind, 2, PrecRewrite.BAD_KIND);
            refused(scene, PLUS, kind, 2, PrecRewrite.BAD_KIND);
            refused(scene, PLUS, kind, 5, PrecRewrite.BAD_KIND);
        }
        for (int level : Range.outside(1, 6)) {
            refused(scene, PLUS, PrecRewrite.LEFT, level, PrecRewrite.BAD_LEVEL);
            refused(scene, PLUS, PrecRewrite.PREFIX, level, PrecRewrite.BAD_LEVEL);
        }
        refused(scene, PLUS, PrecRewrite.LEFT, 5, PrecRewrite.DECLARED);
        refused(scene, PLUS, PrecRewrite.NONASSOC, 5, PrecRewrite.DECLARED);
    }

    private static void nothingChanges(Check check) {
        check.sentence("the first test that fails gives the answer and nothing changes");
        for (Scene scene : Scene.states(check)) {
            refused(scene, -1, PrecRewrite.LEFT, 2, PrecRewrite.BAD_SYMBOL);
            refused(scene, 16, PrecRewrite.LEFT, 2, PrecRewrite.BAD_SYMBOL);
            refused(scene, Scene.FREE, 0, 2, PrecRewrite.BAD_KIND);
            refused(scene, Scene.FREE, 6, 2, PrecRewrite.BAD_KIND);
            refused(scene, Scene.FREE, PrecRewrite.LEFT, 0, PrecRewrite.BAD_LEVEL);
            refused(scene, Scene.FREE, PrecRewrite.LEFT, 7, PrecRewrite.BAD_LEVEL);
            refused(scene, PLUS, PrecRewrite.LEFT, 2, PrecRewrite.DECLARED);
            refused(scene, PLUS, PrecRewrite.RIGHT, 3, PrecRewrite.DECLARED);
            refused(scene, Scene.FREE, PrecRewrite.RIGHT, 2, PrecRewrite.LEVEL_CLASH);
        }
    }

    private static void records(Check check) {
        check.sentence("Otherwise it records the declaration (afterwards `kindOf(symbol)` answers kind and"
                + " `levelOf(symbol)` answers level), discards the result and answers OK.");
        for (int symbol = 0; symbol < 16; symbol++) {
            for (int kind = 1; kind <= 5; kind++) {
                for (int level = 1; level <= 6; level++) {
                    PrecRewrite x = new PrecRewrite(8);
                    check.due("declare", x.declare(symbol, kind, level), PrecRewrite.OK);
                    isDeclared(check, x, symbol, kind, level);
                }
            }
        }
        for (Scene scene : Scene.states(check)) {
            scene.discards("declare", () -> scene.x.declare(Scene.FREE, PrecRewrite.LEFT, 2));
            isDeclared(check, scene.x, Scene.FREE, PrecRewrite.LEFT, 2);
        }
    }

    private static void othersStay(Check check) {
        check.sentence("Other declarations are unchanged.");
        PrecRewrite x = new PrecRewrite(8);
        for (int symbol = 0; symbol < 16; symbol++) {
            check.due("declare", x.declare(symbol, symbol % 5 + 1, symbol % 5 + 2), PrecRewrite.OK);
            for (int s = 0; s < 16; s++) {
                isDeclared(check, x, s, s <= symbol ? s % 5 + 1 : 0, s <= symbol ? s % 5 + 2 : 0);
            }
        }
    }

    private static void tokensStay(Check check) {
        check.sentence("Tokens are not touched, whether or not any token refers to symbol.");
        for (String tokens : new String[] {"", "a", "a|a", "||||||||", "a+(-a)", "a?a!a+"}) {
            Scene scene = new Scene(check, 8, "+L2");
            scene.add(tokens);
            var before = State.tokens(scene.x);
            check.due("declare", scene.x.declare(Scene.FREE, PrecRewrite.PREFIX, 1), PrecRewrite.OK);
            check.same("after declare", State.tokens(scene.x), before);
        }
    }

    private static void manyAtOneLevel(Check check) {
        check.sentence("Declaring a symbol at a level that already holds symbols of the same kind is accepted.");
        for (int kind = 1; kind <= 5; kind++) {
            for (int level = 1; level <= 6; level++) {
                PrecRewrite x = new PrecRewrite(8);
                for (int s = 15; s >= 0; s--) {
                    check.due("declare(" + s + ") at one level", x.declare(s, kind, level), PrecRewrite.OK);
                }
                for (int s = 0; s < 16; s++) {
                    isDeclared(check, x, s, kind, level);
                }
            }
        }
    }

    private static void oneKindAtALevel(Check check) {
        check.sentence("All declared symbols of one level always have the same kind, and one level may hold many"
                + " symbols.");
        PrecRewrite x = new PrecRewrite(8);
        for (int turn = 0; turn < 16 * 30; turn++) {
            int symbol = turn * 7 % 16;
            x.declare(symbol, turn * 11 % 5 + 1, turn * 13 % 6 + 1);
            if (turn % 3 == 0) {
                x.undeclare(turn * 5 % 16);
            }
            for (int s = 0; s < 256; s++) {
                boolean same = x.levelOf(s / 16) == x.levelOf(s % 16);
                check.holds("one kind at turn " + turn, !same || x.kindOf(s / 16) == x.kindOf(s % 16));
            }
        }
    }

    public static void main(String[] args) {
        Check check = new Check();
        badSymbol(check);
        badKind(check);
        badLevel(check);
        declaredAlready(check);
        levelClash(check);
        inOrder(check);
        nothingChanges(check);
        records(check);
        othersStay(check);
        tokensStay(check);
        manyAtOneLevel(check);
        oneKindAtALevel(check);
        check.end();
    }
}
