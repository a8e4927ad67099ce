/** Promises 7 and 8: removeLast and clearTokens. */
final class RemoveAndClearTest {
    private static void refused(Scene scene) {
        scene.changesNothing("removeLast()", scene.x::removeLast, PrecRewrite.EMPTY);
    }

    private static void nothingToRemove(Check check) {
        check.sentence("`removeLast()` answers EMPTY when there is no token, and then nothing changes (the result is"
                + " kept).");
        refused(new Scene(check, 8, ""));
        for (Scene scene : Scene.emptyStates(check)) {
            refused(scene);
            refused(scene);
        }
        Scene cleared = new Scene(check, 8, "+L2");
        cleared.set("a+a");
        cleared.x.clearTokens();
        refused(cleared);
        Scene removed = new Scene(check, 8, "+L2");
        removed.set("a");
        check.due("removeLast() of one", removed.x.removeLast(), PrecRewrite.OK);
        refused(removed);
        removed.x.parse();
        refused(removed);
        check.due("treeCount() after EMPTY", removed.x.treeCount(), PrecRewrite.NO_TREE);
        check.due("forestSize() after EMPTY", removed.x.forestSize(), 0);
    }

    private static void removes(Check check) {
        check.sentence("Otherwise it removes the last token (tokenCount() drops by one, the other tokens are"
                + " unchanged), discards the result and answers OK.");
        for (int capacity = 8; capacity <= 16; capacity++) {
            emptiesOneByOne(check, capacity);
        }
        for (Scene scene : Scene.states(check)) {
            if (scene.x.tokenCount() > 0) {
                scene.discards("removeLast()", scene.x::removeLast);
            }
        }
    }

    private static void emptiesOneByOne(Check check, int capacity) {
        PrecRewrite x = new PrecRewrite(capacity);
        for (int i = 0; i < capacity; i++) {
            x.addToken(PrecRewrite.T_OP, i);
        }
        for (int left = capacity - 1; left >= 0; left--) {
            check.due("removeLast()", x.removeLast(), PrecRewrite.OK);
            check.due("tokenCount()", x.tokenCount(), left);
            for (int i = 0; i < capacity; i++) {
                check.due("tokenAt(" + i + ")", x.tokenAt(i), i < left ? 32 + i : -1);
            }
        }
        check.due("removeLast() in the end", x.removeLast(), PrecRewrite.EMPTY);
    }

    private static void roomAgain(Check check) {
        check.sentence("tokenCount() drops by one, the other tokens are unchanged");
        Scene scene = new Scene(check, 8, "+L2");
        scene.set("a+(a+a)+");
        check.due("removeLast()", scene.x.removeLast(), PrecRewrite.OK);
        check.due("addToken", scene.x.addToken(PrecRewrite.T_ATOM, 0), PrecRewrite.OK);
        check.due("addToken", scene.x.addToken(PrecRewrite.T_ATOM, 0), PrecRewrite.FULL);
        int[] codes = {16, 32, 48, 16, 32, 16, 64, 16};
        for (int i = 0; i < 8; i++) {
            check.due("tokenAt(" + i + ")", scene.x.tokenAt(i), codes[i]);
        }
    }

    private static void removingKeepsDeclarations(Check check) {
        check.sentence("Declarations are not touched.");
        for (String tokens : new String[] {"", "a", "+", "-", "a=", "a+a+a+a=", "|"}) {
            Scene scene = new Scene(check, 8, Scene.DECLARED);
            scene.add(tokens);
            var before = State.declarations(scene.x);
            scene.x.removeLast();
            check.same("after removeLast()", State.declarations(scene.x), before);
        }
    }

    private static void clears(Check check) {
        check.sentence("`clearTokens()` removes all tokens and discards the result, always, even when there is no"
                + " token.");
        Scene fresh = new Scene(check, 8, "");
        fresh.x.clearTokens();
        fresh.hasNoResult("after clearTokens() on a fresh object");
        for (Scene scene : Scene.states(check)) {
            scene.x.clearTokens();
            scene.hasNoResult("after clearTokens() " + scene.name);
            scene.x.clearTokens();
            scene.hasNoResult("after clearTokens() twice " + scene.name);
        }
        for (Scene scene : Scene.emptyStates(check)) {
            scene.x.parse();
            check.due("treeCount() of nothing", scene.x.treeCount(), PrecRewrite.NO_TREE);
            scene.x.clearTokens();
            scene.hasNoResult("after clearTokens() of nothing");
        }
    }

    private static void countsNothing(Check check) {
        check.sentence("Afterwards tokenCount() answers 0.");
        for (Scene scene : Scene.states(check)) {
            scene.x.clearTokens();
            check.due("tokenCount() " + scene.name, scene.x.tokenCount(), 0);
            for (int i = 0; i < 16; i++) {
                check.due("tokenAt(" + i + ") " + scene.name, scene.x.tokenAt(i), -1);
            }
            check.due("removeLast() " + scene.name, scene.x.removeLast(), PrecRewrite.EMPTY);
            scene.add("(a+(-a))");
            check.due("addToken " + scene.name, scene.x.addToken(PrecRewrite.T_ATOM, 0), PrecRewrite.FULL);
        }
    }

    private static void clearingKeepsDeclarations(Check check) {
        check.sentence("Declarations are kept.");
        for (Scene scene : Scene.states(check)) {
            var before = State.declarations(scene.x);
            scene.x.clearTokens();
            check.same("after clearTokens()", State.declarations(scene.x), before);
        }
    }

    public static void main(String[] args) {
        Check check = new Check();
        nothingToRemove(check);
        removes(check);
        roomAgain(check);
        removingKeepsDeclarations(check);
        clears(check);
        countsNothing(check);
        clearingKeepsDeclarations(check);
        check.end();
    }
}
