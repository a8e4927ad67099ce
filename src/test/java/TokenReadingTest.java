/** Promises 9 and 10: tokenCount and tokenAt. */
final class TokenReadingTest {
    private static void counts(Check check) {
        check.sentence("`tokenCount()` answers the number of tokens n, in 0..capacity.");
        for (int capacity = 8; capacity <= 16; capacity++) {
            PrecRewrite x = new PrecRewrite(capacity);
            check.due("tokenCount() at first", x.tokenCount(), 0);
            for (int n = 1; n <= capacity; n++) {
                x.addToken(n % 4 + 1, n - 1);
                check.due("tokenCount() of capacity " + capacity, x.tokenCount(), n);
            }
            x.addToken(PrecRewrite.T_ATOM, 0);
            check.due("tokenCount() after FULL", x.tokenCount(), capacity);
            for (int n = capacity - 1; n >= 0; n--) {
                x.removeLast();
                check.due("tokenCount() after removeLast()", x.tokenCount(), n);
            }
        }
    }

    private static void codes(Check check) {
        check.sentence("`tokenAt(i)` answers token i coded as kind * 16 + s, where s is the symbol for T_OP and 0"
                + " otherwise: ATOM 16, OP s 32+s, OPEN 48, CLOSE 64.");
        for (int symbol = 0; symbol < 16; symbol++) {
            PrecRewrite x = new PrecRewrite(8);
            for (int kind = 4; kind >= 1; kind--) {
                x.addToken(kind, symbol);
            }
            int[] due = {64, 48, 32 + symbol, 16};
            for (int i = 0; i < 4; i++) {
                check.due("tokenAt(" + i + ")", x.tokenAt(i), due[i]);
            }
        }
    }

    private static void codesInThePlaceOfOthers(Check check) {
        check.sentence("where s is the symbol for T_OP and 0 otherwise");
        PrecRewrite x = new PrecRewrite(8);
        for (int kind : new int[] {PrecRewrite.T_ATOM, PrecRewrite.T_OPEN, PrecRewrite.T_CLOSE}) {
            x.addToken(PrecRewrite.T_OP, 15);
            check.due("tokenAt(0)", x.tokenAt(0), 47);
            x.removeLast();
            x.addToken(kind, 15);
            check.due("tokenAt(0) of kind " + kind, x.tokenAt(0), kind * 16);
            x.clearTokens();
        }
    }

    private static void outside(Check check) {
        check.sentence("It answers -1 if i is not in 0..n-1 (negative, or n or more).");
        PrecRewrite x = new PrecRewrite(16);
        for (int n = 0; n <= 16; n++) {
            for (int i : Range.outside(0, n - 1)) {
                check.due("tokenAt(" + i + ") of " + n, x.tokenAt(i), -1);
            }
            for (int i = 0; i < n; i++) {
                check.due("tokenAt(" + i + ") of " + n, x.tokenAt(i), 32 + i);
            }
            x.addToken(PrecRewrite.T_OP, n);
        }
        for (int n = 15; n >= 0; n--) {
            x.removeLast();
            check.due("tokenAt(" + n + ") of what was removed", x.tokenAt(n), -1);
        }
    }

    private static void tokenCountChangesNothing(Check check) {
        check.sentence("the number of tokens n, in 0..capacity. It changes nothing.");
        Reading.changesNothing(check, "tokenCount", (x, i) -> x.tokenCount());
    }

    private static void tokenAtChangesNothing(Check check) {
        check.sentence("(negative, or n or more). It changes nothing.");
        Reading.changesNothing(check, "tokenAt", PrecRewrite::tokenAt);
    }

    public static void main(String[] args) {
        Check check = new Check();
        counts(check);
        tokenCountChangesNothing(check);
        codes(check);
        codesInThePlaceOfOthers(check);
        outside(check);
        tokenAtChangesNothing(check);
        check.end();
    }
}
