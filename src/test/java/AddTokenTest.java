/** Promise 6: addToken. */
final class AddTokenTest {
    private static final int[] KINDS_BUT_OP = {PrecRewrite.T_ATOM, PrecRewrite.T_OPEN, PrecRewrite.T_CLOSE};

    private static void refused(Scene scene, int kind, int symbol, int due) {
        String call = "addToken(" + kind + ", " + symbol + ")";
        scene.changesNothing(call, () -> scene.x.addToken(kind, symbol), due);
    }

    private static void symbolIsIgnored(Check check, int kind, int symbol) {
        PrecRewrite x = new PrecRewrite(8);
        check.due("addToken(" + kind + ", " + symbol + ")", x.addToken(kind, symbol), PrecRewrite.OK);
        check.due("tokenCount()", x.tokenCount(), 1);
        check.due("tokenAt(0)", x.tokenAt(0), kind * 16);
    }

    private static void anySymbolUnlessOp(Check check) {
        check.sentence("symbol matters only when kind == T_OP and is otherwise ignored (any int value is accepted"
                + " then).");
        for (int kind : KINDS_BUT_OP) {
            for (int symbol : Range.outside(0, 15)) {
                symbolIsIgnored(check, kind, symbol);
            }
            for (int symbol = 0; symbol < 16; symbol++) {
                symbolIsIgnored(check, kind, symbol);
            }
        }
    }

    private static void badKind(Check check) {
        check.sentence("kind not in 1..4 -> BAD_KIND.");
        Scene scene = new Scene(check, 8, "");
        for (int kind : Range.outside(1, 4)) {
            refused(scene, kind, 0, PrecRewrite.BAD_KIND);
            refused(scene, kind, 15, PrecRewrite.BAD_KIND);
        }
        for (int kind = 1; kind <= 4; kind++) {
            check.due("addToken of kind " + kind, scene.x.addToken(kind, 0), PrecRewrite.OK);
        }
    }

    private static void badSymbol(Check check) {
        check.sentence("kind == T_OP and symbol not in 0..15 -> BAD_SYMBOL.");
        Scene scene = new Scene(check, 16, "");
        for (int symbol : Range.outside(0, 15)) {
            refused(scene, PrecRewrite.T_OP, symbol, PrecRewrite.BAD_SYMBOL);
        }
        for (int symbol = 0; symbol <= 15; symbol++) {
            check.due("addToken of OP " + symbol, scene.x.addToken(PrecRewrite.T_OP, symbol), PrecRewrite.OK);
        }
    }

    private static void undeclaredIsTaken(Check check) {
        check.sentence("Whether symbol is declared is not tested.");
        PrecRewrite x = new PrecRewrite(16);
        for (int symbol = 0; symbol < 16; symbol++) {
            check.due("addToken of undeclared " + symbol, x.addToken(PrecRewrite.T_OP, symbol), PrecRewrite.OK);
            check.due("tokenAt(" + symbol + ")", x.tokenAt(symbol), 32 + symbol);
        }
        x.clearTokens();
        for (int symbol = 0; symbol < 16; symbol++) {
            x.declare(symbol, PrecRewrite.LEFT, 1);
            check.due("addToken of declared " + symbol, x.addToken(PrecRewrite.T_OP, symbol), PrecRewrite.OK);
            check.due("tokenAt(" + symbol + ")", x.tokenAt(symbol), 32 + symbol);
        }
    }

    private static void full(Check check) {
        check.sentence("tokenCount() == capacity -> FULL.");
        for (int capacity = 8; capacity <= 16; capacity++) {
            Scene scene = new Scene(check, capacity, "");
            scene.add("(".repeat(capacity - 1));
            for (int kind = 1; kind <= 4; kind++) {
                check.due("the last token", scene.x.addToken(kind, 15), PrecRewrite.OK);
                for (int more = 1; more <= 4; more++) {
                    refused(scene, more, 15, PrecRewrite.FULL);
                }
                scene.x.removeLast();
            }
        }
    }

    private static void inOrder(Check check) {
        check.sentence("Tests in order:");
        Scene roomy = new Scene(check, 8, "");
        Scene full = new Scene(check, 8, "");
        full.add("(a+a+a+)");
        for (int kind : Range.outside(1, 4)) {
            refused(roomy, kind, -1, PrecRewrite.BAD_KIND);
            refused(roomy, kind, 16, PrecRewrite.BAD_KIND);
            refused(full, kind, 0, PrecRewrite.BAD_KIND);
            refused(full, kind, 16, PrecRewrite.BAD_KIND);
        }
        for (int symbol : Range.outside(0, 15)) {
            refused(full, PrecRewrite.T_OP, symbol, PrecRewrite.BAD_SYMBOL);
            for (int kind : KINDS_BUT_OP) {
                refused(full, kind, symbol, PrecRewrite.FULL);
            }
        }
    }

    private static void nothingChanges(Check check) {
        check.sentence("On any of these answers nothing changes.");
        for (Scene scene : Scene.states(check)) {
            refused(scene, 0, 0, PrecRewrite.BAD_KIND);
            refused(scene, 5, 0, PrecRewrite.BAD_KIND);
            refused(scene, PrecRewrite.T_OP, -1, PrecRewrite.BAD_SYMBOL);
            refused(scene, PrecRewrite.T_OP, 16, PrecRewrite.BAD_SYMBOL);
        }
        for (Scene scene : Scene.fullStates(check)) {
            for (int kind = 1; kind <= 4; kind++) {
                refused(scene, kind, 0, PrecRewrite.FULL);
            }
        }
    }

    private static void appends(Check check) {
        check.sentence("Otherwise the token is appended at position tokenCount() (so tokenCount() grows by one and"
                + " earlier tokens are unchanged), the result is discarded, and the answer is OK.");
        PrecRewrite x = new PrecRewrite(16);
        for (int n = 0; n < 16; n++) {
            check.due("addToken", x.addToken(n % 4 + 1, 15 - n), PrecRewrite.OK);
            check.due("tokenCount()", x.tokenCount(), n + 1);
            for (int i = 0; i <= n; i++) {
                check.due("tokenAt(" + i + ")", x.tokenAt(i), (i % 4 + 1) * 16 + (i % 4 == 1 ? 15 - i : 0));
            }
        }
        for (int kind = 1; kind <= 4; kind++) {
            for (Scene scene : Scene.states(check)) {
                int added = kind;
                if (scene.x.tokenCount() < 8) {
                    scene.discards("addToken of kind " + kind, () -> scene.x.addToken(added, 0));
                }
            }
        }
    }

    private static void declarationsStay(Check check) {
        check.sentence("Declarations are not touched.");
        for (int symbol = 0; symbol < 16; symbol++) {
            for (int kind = 1; kind <= 4; kind++) {
                PrecRewrite x = new Scene(check, 8, Scene.DECLARED).x;
                var before = State.declarations(x);
                check.due("addToken", x.addToken(kind, symbol), PrecRewrite.OK);
                check.same("after addToken", State.declarations(x), before);
            }
        }
    }

    public static void main(String[] args) {
        Check check = new Check();
        anySymbolUnlessOp(check);
        badKind(check);
        badSymbol(check);
        undeclaredIsTaken(check);
        full(check);
        inOrder(check);
        nothingChanges(check);
        appends(check);
        declarationsStay(check);
        check.end();
    }
}
