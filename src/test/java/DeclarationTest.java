/** Promises 2 to 5: declare, undeclare, kindOf and levelOf. */
final class DeclarationTest {
    private static final int[] OUT_OF_ALL = {Integer.MIN_VALUE, -16, -1, 16, 17, 32, Integer.MAX_VALUE};
    private static final int[] BAD_KINDS = {Integer.MIN_VALUE, -1, 0, 6, 7, 16, Integer.MAX_VALUE};
    private static final int[] BAD_LEVELS = {Integer.MIN_VALUE, -1, 0, 7, 8, 16, Integer.MAX_VALUE};

    private static void isDeclared(Check check, PrecRewrite x, int symbol, int kind, int level) {
        check.due("kindOf(" + symbol + ")", x.kindOf(symbol), kind);
        check.due("levelOf(" + symbol + ")", x.levelOf(symbol), level);
    }

    private static void everyDeclaration(Check check) {
        for (int symbol = 0; symbol < 16; symbol++) {
            for (int kind = 1; kind <= 5; kind++) {
                for (int level = 1; level <= 6; level++) {
                    PrecRewrite x = new PrecRewrite(8);
                    check.due("declare", x.declare(symbol, kind, level), PrecRewrite.OK);
                    for (int s = 0; s < 16; s++) {
                        isDeclared(check, x, s, s == symbol ? kind : 0, s == symbol ? level : 0);
                    }
                    check.due("undeclare", x.undeclare(symbol), PrecRewrite.OK);
                    isDeclared(check, x, symbol, 0, 0);
                }
            }
        }
    }

    private static void everyClash(Check check) {
        for (int kind = 1; kind <= 5; kind++) {
            for (int other = 1; other <= 5; other++) {
                for (int level = 1; level <= 6; level++) {
                    for (int holder : new int[] {0, 7, 15}) {
                        int symbol = holder == 7 ? 8 : 15 - holder;
                        PrecRewrite x = new PrecRewrite(8);
                        x.declare(holder, kind, level);
                        int due = kind == other ? PrecRewrite.OK : PrecRewrite.LEVEL_CLASH;
                        check.due("declare beside kind " + kind, x.declare(symbol, other, level), due);
                        isDeclared(check, x, holder, kind, level);
                        isDeclared(check, x, symbol, kind == other ? other : 0, kind == other ? level : 0);
                        check.due("declare at another level", x.declare(3, other, level % 6 + 1), PrecRewrite.OK);
                    }
                }
            }
        }
    }

    private static void oneLevelHoldsAll(Check check) {
        PrecRewrite x = new PrecRewrite(8);
        for (int s = 0; s < 16; s++) {
            check.due("declare(" + s + ") at one level", x.declare(s, PrecRewrite.RIGHT, 3), PrecRewrite.OK);
        }
        for (int s = 0; s < 15; s++) {
            check.due("undeclare(" + s + ")", x.undeclare(s), PrecRewrite.OK);
            isDeclared(check, x, 15, PrecRewrite.RIGHT, 3);
            check.due("clash with the rest", x.declare(s, PrecRewrite.LEFT, 3), PrecRewrite.LEVEL_CLASH);
        }
        check.due("undeclare(15)", x.undeclare(15), PrecRewrite.OK);
        check.due("declare at the freed level", x.declare(4, PrecRewrite.LEFT, 3), PrecRewrite.OK);
        check.due("declare of the old kind", x.declare(5, PrecRewrite.RIGHT, 3), PrecRewrite.LEVEL_CLASH);
    }

    private static void orderOfTests(Check check) {
        PrecRewrite x = new PrecRewrite(8);
        check.due("declare", x.declare(2, PrecRewrite.LEFT, 2), PrecRewrite.OK);
        for (int symbol : OUT_OF_ALL) {
            check.due("declare " + symbol, x.declare(symbol, 1, 1), PrecRewrite.BAD_SYMBOL);
            check.due("declare " + symbol, x.declare(symbol, 0, 0), PrecRewrite.BAD_SYMBOL);
            check.due("declare " + symbol, x.declare(symbol, 6, 1), PrecRewrite.BAD_SYMBOL);
            check.due("declare " + symbol, x.declare(symbol, 1, 7), PrecRewrite.BAD_SYMBOL);
            check.due("declare " + symbol, x.declare(symbol, 1, 2), PrecRewrite.BAD_SYMBOL);
            check.due("undeclare " + symbol, x.undeclare(symbol), PrecRewrite.BAD_SYMBOL);
            isDeclared(check, x, symbol, 0, 0);
        }
        for (int kind : BAD_KINDS) {
            check.due("kind " + kind, x.declare(1, kind, 1), PrecRewrite.BAD_KIND);
            check.due("kind " + kind, x.declare(1, kind, 0), PrecRewrite.BAD_KIND);
            check.due("kind " + kind, x.declare(1, kind, 2), PrecRewrite.BAD_KIND);
            check.due("kind " + kind, x.declare(2, kind, 2), PrecRewrite.BAD_KIND);
        }
        for (int level : BAD_LEVELS) {
            check.due("level " + level, x.declare(1, 1, level), PrecRewrite.BAD_LEVEL);
            check.due("level " + level, x.declare(2, 3, level), PrecRewrite.BAD_LEVEL);
        }
        check.due("the same again", x.declare(2, PrecRewrite.LEFT, 2), PrecRewrite.DECLARED);
        check.due("another kind and level", x.declare(2, PrecRewrite.PREFIX, 5), PrecRewrite.DECLARED);
        check.due("another kind", x.declare(2, PrecRewrite.PREFIX, 2), PrecRewrite.DECLARED);
        check.due("declare", x.declare(3, PrecRewrite.POSTFIX, 4), PrecRewrite.OK);
        check.due("declared before clash", x.declare(3, PrecRewrite.POSTFIX, 2), PrecRewrite.DECLARED);
        for (int s = 0; s < 16; s++) {
            isDeclared(check, x, s, s == 2 ? 3 : s == 3 ? 2 : 0, s == 2 ? 2 : s == 3 ? 4 : 0);
        }
    }

    private static void undeclareTwice(Check check) {
        PrecRewrite x = new PrecRewrite(8);
        for (int s = 0; s < 16; s++) {
            check.due("undeclare(" + s + ")", x.undeclare(s), PrecRewrite.UNDECLARED);
            check.due("declare(" + s + ")", x.declare(s, PrecRewrite.NONASSOC, 6), PrecRewrite.OK);
        }
        check.due("undeclare(9)", x.undeclare(9), PrecRewrite.OK);
        check.due("undeclare(9)", x.undeclare(9), PrecRewrite.UNDECLARED);
        for (int s = 0; s < 16; s++) {
            isDeclared(check, x, s, s == 9 ? 0 : 5, s == 9 ? 0 : 6);
        }
        check.due("declare(9)", x.declare(9, PrecRewrite.PREFIX, 1), PrecRewrite.OK);
        isDeclared(check, x, 9, PrecRewrite.PREFIX, 1);
    }

    private static void tokensStay(Check check) {
        Scene scene = new Scene(check, 8, "+L2");
        scene.set("a+(-a)");
        check.due("undeclare", scene.x.undeclare(Scene.symbol('+')), PrecRewrite.OK);
        check.due("declare", scene.x.declare(Scene.symbol('-'), PrecRewrite.PREFIX, 2), PrecRewrite.OK);
        int[] due = {16, 32, 48, 34, 16, 64};
        check.due("tokenCount()", scene.x.tokenCount(), due.length);
        for (int i = 0; i < due.length; i++) {
            check.due("tokenAt(" + i + ")", scene.x.tokenAt(i), due[i]);
        }
        check.due("parse()", scene.x.parse(), PrecRewrite.NO_TREE);
        check.due("declare", scene.x.declare(Scene.symbol('+'), PrecRewrite.LEFT, 3), PrecRewrite.OK);
        check.due("parse()", scene.x.parse(), PrecRewrite.ONE_TREE);
    }

    public static void main(String[] args) {
        Check check = new Check();
        everyDeclaration(check);
        everyClash(check);
        oneLevelHoldsAll(check);
        orderOfTests(check);
        undeclareTwice(check);
        tokensStay(check);
        check.end();
    }
}
