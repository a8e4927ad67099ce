/**
 * Promises 1 to 16 against the model: long runs of mixed calls, right and
 * wrong ones, with every reading call after each.
 */
final class AgainstModelTest {
    private static final int[] ODD = {Integer.MIN_VALUE, -7, -1, 16, 17, 100, Integer.MAX_VALUE};

    // A fixed sequence of numbers, so that every run of the test is the same.
    private static long state = 20261115L;

    private static int pick(int bound) {
        state = state * 6364136223846793005L + 1442695040888963407L;
        return (int) ((state >>> 33) % bound);
    }

    private static int mostly(int low, int high) {
        return pick(12) == 0 ? ODD[pick(ODD.length)] : low - 1 + pick(high - low + 3);
    }

    private static int operator(Pair pair, boolean infix, int kind) {
        int start = pick(16);
        for (int s = 0; s < 16; s++) {
            int symbol = (start + s) % 16;
            int has = pair.kindOf(symbol);
            if (infix ? has >= PrecRewrite.LEFT : has == kind) {
                return symbol;
            }
        }
        return -1;
    }

    private static void addOperator(Pair pair, boolean infix, int kind) {
        int symbol = operator(pair, infix, kind);
        if (symbol >= 0) {
            pair.addToken(PrecRewrite.T_OP, symbol);
        }
    }

    /** Adds tokens that are likely to be an expression. */
    private static void addExpression(Pair pair, int depth) {
        for (int i = pick(3); i > 0; i--) {
            addOperator(pair, false, PrecRewrite.PREFIX);
        }
        if (depth > 0 && pick(4) == 0) {
            pair.addToken(PrecRewrite.T_OPEN, pick(30) - 10);
            addExpression(pair, depth - 1);
            pair.addToken(PrecRewrite.T_CLOSE, pick(30) - 10);
        } else {
            pair.addToken(PrecRewrite.T_ATOM, pick(30) - 10);
        }
        for (int i = pick(3); i > 0; i--) {
            addOperator(pair, false, PrecRewrite.POSTFIX);
        }
        if (depth > 0 && pick(4) != 0) {
            addOperator(pair, true, 0);
            addExpression(pair, depth - 1);
        }
    }

    private static void anyCall(Pair pair) {
        switch (pick(10)) {
            case 0:
            case 1:
                pair.declare(mostly(0, 15), mostly(1, 5), mostly(1, 6));
                break;
            case 2:
                pair.undeclare(mostly(0, 15));
                break;
            case 3:
            case 4:
                pair.addToken(mostly(1, 4), mostly(0, 15));
                break;
            case 5:
                pair.removeLast();
                break;
            case 6:
                pair.clearTokens();
                addExpression(pair, 3);
                pair.parse();
                break;
            case 7:
                if (pick(3) == 0) {
                    pair.clearTokens();
                }
                break;
            default:
                pair.parse();
                break;
        }
    }

    private static void mixedCalls(Check check) {
        for (int run = 0; run < 400; run++) {
            Pair pair = new Pair(check, "mixed run " + run, pick(14) + 5);
            pair.readAll();
            for (int call = 0; call < 60; call++) {
                anyCall(pair);
                pair.readAll();
            }
        }
    }

    private static void expressions(Check check) {
        for (int run = 0; run < 600; run++) {
            Pair pair = new Pair(check, "expression run " + run, 16);
            for (int i = 0; i < 30; i++) {
                pair.declare(pick(16), pick(5) + 1, pick(6) + 1);
            }
            for (int i = 0; i < 20; i++) {
                pair.clearTokens();
                addExpression(pair, 5);
                pair.parse();
                pair.readResult();
            }
        }
    }

    public static void main(String[] args) {
        Check check = new Check();
        mixedCalls(check);
        expressions(check);
        check.end();
    }
}
