/** Promise 1: the clamped capacity and the fresh object. */
final class ConstructionTest {
    private static void holdsTokens(Check check, int given, int due) {
        PrecRewrite x = new PrecRewrite(given);
        int taken = 0;
        while (taken < 40 && x.addToken(PrecRewrite.T_ATOM, 0) == PrecRewrite.OK) {
            taken++;
        }
        check.due("tokens taken at capacity " + given, taken, due);
        check.due("tokenCount() at capacity " + given, x.tokenCount(), due);
        check.due("addToken beyond capacity " + given, x.addToken(PrecRewrite.T_ATOM, 0), PrecRewrite.FULL);
    }

    private static void belowTheRange(Check check) {
        check.sentence("any value below 8 (including negative values and Integer.MIN_VALUE) becomes 8");
        for (int low = -40; low < 8; low++) {
            holdsTokens(check, low, 8);
        }
        for (int given : Range.outside(8, 16)) {
            if (given < 8) {
                holdsTokens(check, given, 8);
            }
        }
    }

    private static void aboveTheRange(Check check) {
        check.sentence("any value above 16 (including Integer.MAX_VALUE) becomes 16");
        for (int high = 17; high < 60; high++) {
            holdsTokens(check, high, 16);
        }
        for (int given : Range.outside(8, 16)) {
            if (given > 16) {
                holdsTokens(check, given, 16);
            }
        }
    }

    private static void insideTheRange(Check check) {
        check.sentence("values in 8..16 are kept as given");
        for (int capacity = 8; capacity <= 16; capacity++) {
            holdsTokens(check, capacity, capacity);
        }
    }

    private static void lasts(Check check) {
        check.sentence("fixes the capacity for the object's whole life");
        for (int capacity = 8; capacity <= 16; capacity++) {
            PrecRewrite x = new PrecRewrite(capacity);
            for (int round = 0; round < 4; round++) {
                x.declare(round, PrecRewrite.LEFT, 1);
                for (int n = 0; n < capacity; n++) {
                    check.due("addToken below " + capacity, x.addToken(PrecRewrite.T_ATOM, 0), PrecRewrite.OK);
                }
                check.due("addToken at " + capacity, x.addToken(PrecRewrite.T_ATOM, 0), PrecRewrite.FULL);
                x.parse();
                check.due("addToken after parse", x.addToken(PrecRewrite.T_ATOM, 0), PrecRewrite.FULL);
                x.removeLast();
                check.due("addToken after removeLast", x.addToken(PrecRewrite.T_ATOM, 0), PrecRewrite.OK);
                check.due("addToken after that", x.addToken(PrecRewrite.T_ATOM, 0), PrecRewrite.FULL);
                x.undeclare(round);
                x.clearTokens();
            }
        }
    }

    private static void apart(Check check) {
        check.sentence("PrecRewrite(int capacity)");
        Scene one = new Scene(check, 8, "+L1");
        Scene two = new Scene(check, 16, "");
        one.parses("a+a+a", PrecRewrite.ONE_TREE, 2);
        isFresh(check, two.x, "beside another object");
        two.x.clearTokens();
        check.due("treeCount() of the first", one.x.treeCount(), PrecRewrite.ONE_TREE);
        two.x.addToken(PrecRewrite.T_ATOM, 0);
        two.x.parse();
        check.due("forestSize() of the first", one.x.forestSize(), 2);
        check.due("root() of the first", one.x.root(), 3);
    }

    private static void isFresh(Check check, PrecRewrite x, String when) {
        check.due("tokenCount() " + when, x.tokenCount(), 0);
        for (int s = 0; s < 16; s++) {
            check.due("kindOf(" + s + ") " + when, x.kindOf(s), 0);
            check.due("levelOf(" + s + ") " + when, x.levelOf(s), 0);
            check.due("undeclare(" + s + ") " + when, x.undeclare(s), PrecRewrite.UNDECLARED);
        }
        for (int i = -1; i <= 16; i++) {
            check.due("tokenAt(" + i + ") " + when, x.tokenAt(i), -1);
        }
        check.due("removeLast() " + when, x.removeLast(), PrecRewrite.EMPTY);
        check.due("treeCount() " + when, x.treeCount(), PrecRewrite.NO_RESULT);
        check.due("forestSize() " + when, x.forestSize(), PrecRewrite.NO_RESULT);
        check.due("root() " + when, x.root(), PrecRewrite.INVALID);
        for (int i = -1; i <= 16; i++) {
            check.due("parent(" + i + ") " + when, x.parent(i), PrecRewrite.INVALID);
            check.due("spanFirst(" + i + ") " + when, x.spanFirst(i), PrecRewrite.INVALID);
            check.due("spanLast(" + i + ") " + when, x.spanLast(i), PrecRewrite.INVALID);
        }
    }

    private static void fresh(Check check) {
        check.sentence("A fresh object has no declared symbol, no token and no result: `tokenCount()` answers 0,"
                + " `kindOf` and `levelOf` answer 0 for every symbol, `treeCount()` and `forestSize()` answer"
                + " NO_RESULT, and `root()`, `parent`, `spanFirst`, `spanLast` answer INVALID.");
        for (int given = 5; given <= 19; given++) {
            isFresh(check, new PrecRewrite(given), "fresh at capacity " + given);
        }
        isFresh(check, new PrecRewrite(Integer.MIN_VALUE), "fresh at the least capacity");
        isFresh(check, new PrecRewrite(Integer.MAX_VALUE), "fresh at the greatest capacity");
    }

    public static void main(String[] args) {
        Check check = new Check();
        lasts(check);
        belowTheRange(check);
        aboveTheRange(check);
        insideTheRange(check);
        fresh(check);
        apart(check);
        check.end();
    }
}
