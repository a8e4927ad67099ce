/** Promises 6 to 10: addToken, removeLast, clearTokens, tokenCount and tokenAt. */
final class TokenTest {
    private static final int[] FAR = {Integer.MIN_VALUE, -16, -1, 16, 17, 48, Integer.MAX_VALUE};
    private static final int[] BAD_KINDS = {Integer.MIN_VALUE, -2, -1, 0, 5, 6, 16, Integer.MAX_VALUE};

    private static void holds(Check check, PrecRewrite x, int... codes) {
        check.due("tokenCount()", x.tokenCount(), codes.length);
        for (int i = 0; i < codes.length; i++) {
            check.due("tokenAt(" + i + ")", x.tokenAt(i), codes[i]);
        }
        for (int i = codes.length; i <= 17; i++) {
            check.due("tokenAt(" + i + ")", x.tokenAt(i), -1);
        }
        for (int i : new int[] {-1, -2, -16, 32, Integer.MIN_VALUE, Integer.MAX_VALUE}) {
            check.due("tokenAt(" + i + ")", x.tokenAt(i), -1);
        }
    }

    private static void everyToken(Check check) {
        for (int symbol = 0; symbol < 16; symbol++) {
            PrecRewrite x = new PrecRewrite(8);
            check.due("addToken OP " + symbol, x.addToken(PrecRewrite.T_OP, symbol), PrecRewrite.OK);
            check.due("addToken ATOM", x.addToken(PrecRewrite.T_ATOM, symbol), PrecRewrite.OK);
            check.due("addToken OPEN", x.addToken(PrecRewrite.T_OPEN, symbol), PrecRewrite.OK);
            check.due("addToken CLOSE", x.addToken(PrecRewrite.T_CLOSE, symbol), PrecRewrite.OK);
            holds(check, x, 32 + symbol, 16, 48, 64);
            check.due("kindOf(" + symbol + ")", x.kindOf(symbol), 0);
        }
        for (int symbol : FAR) {
            PrecRewrite x = new PrecRewrite(8);
            check.due("addToken OP " + symbol, x.addToken(PrecRewrite.T_OP, symbol), PrecRewrite.BAD_SYMBOL);
            holds(check, x);
            check.due("addToken ATOM " + symbol, x.addToken(PrecRewrite.T_ATOM, symbol), PrecRewrite.OK);
            check.due("addToken OPEN " + symbol, x.addToken(PrecRewrite.T_OPEN, symbol), PrecRewrite.OK);
            check.due("addToken CLOSE " + symbol, x.addToken(PrecRewrite.T_CLOSE, symbol), PrecRewrite.OK);
            holds(check, x, 16, 48, 64);
        }
    }

    private static void orderOfTests(Check check) {
        PrecRewrite x = new PrecRewrite(8);
        for (int round = 0; round < 2; round++) {
            for (int kind : BAD_KINDS) {
                check.due("kind " + kind, x.addToken(kind, 0), PrecRewrite.BAD_KIND);
                check.due("kind " + kind, x.addToken(kind, 16), PrecRewrite.BAD_KIND);
                check.due("kind " + kind, x.addToken(kind, -1), PrecRewrite.BAD_KIND);
            }
            check.due("tokenCount()", x.tokenCount(), round * 8);
            while (x.tokenCount() < 8 && x.addToken(PrecRewrite.T_OP, x.tokenCount()) == PrecRewrite.OK) {
                check.due("kindOf(0)", x.kindOf(0), 0);
            }
        }
        for (int symbol : FAR) {
            check.due("full, OP " + symbol, x.addToken(PrecRewrite.T_OP, symbol), PrecRewrite.BAD_SYMBOL);
            check.due("full, ATOM " + symbol, x.addToken(PrecRewrite.T_ATOM, symbol), PrecRewrite.FULL);
        }
        for (int kind = 1; kind <= 4; kind++) {
            check.due("full, kind " + kind, x.addToken(kind, 3), PrecRewrite.FULL);
        }
        holds(check, x, 32, 33, 34, 35, 36, 37, 38, 39);
    }

    private static void removeAndAdd(Check check) {
        PrecRewrite x = new PrecRewrite(8);
        check.due("removeLast()", x.removeLast(), PrecRewrite.EMPTY);
        holds(check, x);
        x.addToken(PrecRewrite.T_OP, 15);
        x.addToken(PrecRewrite.T_OPEN, 0);
        x.addToken(PrecRewrite.T_OP, 7);
        check.due("removeLast()", x.removeLast(), PrecRewrite.OK);
        holds(check, x, 47, 48);
        check.due("addToken", x.addToken(PrecRewrite.T_CLOSE, 7), PrecRewrite.OK);
        holds(check, x, 47, 48, 64);
        for (int left = 2; left >= 0; left--) {
            check.due("removeLast()", x.removeLast(), PrecRewrite.OK);
            check.due("tokenCount()", x.tokenCount(), left);
        }
        check.due("removeLast()", x.removeLast(), PrecRewrite.EMPTY);
        check.due("removeLast()", x.removeLast(), PrecRewrite.EMPTY);
        holds(check, x);
    }

    private static void clear(Check check) {
        Scene scene = new Scene(check, 8, "+L2 -P4");
        scene.x.clearTokens();
        holds(check, scene.x);
        scene.set("a+(-a)+a");
        holds(check, scene.x, 16, 32, 48, 34, 16, 64, 32, 16);
        scene.x.clearTokens();
        holds(check, scene.x);
        check.due("removeLast()", scene.x.removeLast(), PrecRewrite.EMPTY);
        scene.add("-a");
        holds(check, scene.x, 34, 16);
        declarationsStay(check, scene.x);
    }

    private static void declarationsStay(Check check, PrecRewrite x) {
        check.due("removeLast()", x.removeLast(), PrecRewrite.OK);
        for (int s = 0; s < 16; s++) {
            check.due("kindOf(" + s + ")", x.kindOf(s), s == 0 ? PrecRewrite.LEFT : s == 2 ? PrecRewrite.PREFIX : 0);
            check.due("levelOf(" + s + ")", x.levelOf(s), s == 0 ? 2 : s == 2 ? 4 : 0);
        }
    }

    public static void main(String[] args) {
        Check check = new Check();
        everyToken(check);
        orderOfTests(check);
        removeAndAdd(check);
        clear(check);
        check.end();
    }
}
