/** Promise 1: the clamped capacity and the fresh object. */
final class ConstructionTest {
    private static void holdsTokens(Check check, int given, int due) {
        PrecRewrite x = new PrecRewrite(given);
        int taken = 0;
        while (taken < 40 && x.addToken(PrecRewrite.T_ATOM, 0) == PrecRewrite.OK) {
            taken++;
        }
        check.due("tokens taken at capacity " + given, taken, due);
        check.due("tokenCount() at capacity " + given, x.tokenCount(), due);
        check.due("addToken beyond capacity " + given, x.addToken(PrecRewrite.T_ATOM, 0), PrecRewrite.FULL);
    }

    private static void capacityLasts(Check check) {
        Scene scene = new Scene(check, 9, "+L1");
        for (int round = 0; round < 5; round++) {
            scene.set("a+a+a+a+a");
            check.due("addToken in round " + round, scene.x.addToken(1, 0), PrecRewrite.FULL);
            check.due("parse() in round " + round, scene.x.parse(), PrecRewrite.ONE_TREE);
            check.due("removeLast()", scene.x.removeLast(), PrecRewrite.OK);
            check.due("addToken", scene.x.addToken(1, 0), PrecRewrite.OK);
            check.due("addToken in round " + round, scene.x.addToken(1, 0), PrecRewrite.FULL);
        }
    }

    private static void isFresh(Check check, int capacity) {
        Scene scene = new Scene(check, capacity, "");
        check.due("tokenCount()", scene.x.tokenCount(), 0);
        for (int s = -1; s <= 16; s++) {
            check.due("kindOf(" + s + ")", scene.x.kindOf(s), 0);
            check.due("levelOf(" + s + ")", scene.x.levelOf(s), 0);
        }
        for (int i = -1; i <= 16; i++) {
            check.due("tokenAt(" + i + ")", scene.x.tokenAt(i), -1);
        }
        scene.hasNoResult("on a fresh object");
    }

    private static void objectsAreApart(Check check) {
        Scene one = new Scene(check, 8, "+L1");
        Scene two = new Scene(check, 8, "");
        one.parses("a+a", PrecRewrite.ONE_TREE, 1);
        check.due("tokenCount() of the other", two.x.tokenCount(), 0);
        check.due("kindOf(0) of the other", two.x.kindOf(0), 0);
        two.hasNoResult("on the other object");
    }

    public static void main(String[] args) {
        Check check = new Check();
        for (int capacity = 8; capacity <= 16; capacity++) {
            holdsTokens(check, capacity, capacity);
            isFresh(check, capacity);
        }
        for (int low : new int[] {Integer.MIN_VALUE, -16, -8, -1, 0, 1, 7}) {
            holdsTokens(check, low, 8);
            isFresh(check, low);
        }
        for (int high : new int[] {17, 18, 32, 1000, 1 << 20, Integer.MAX_VALUE}) {
            holdsTokens(check, high, 16);
            isFresh(check, high);
        }
        capacityLasts(check);
        objectsAreApart(check);
        check.end();
    }
}
