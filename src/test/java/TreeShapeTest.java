import java.util.function.IntUnaryOperator;

/** Promises 14 to 16: root, parent, spanFirst and spanLast of the one tree. */
final class TreeShapeTest {
    private static final int ONE = PrecRewrite.ONE_TREE;
    private static final String OPERATORS = "-P1 +L2 ^R3 !Q4 =N5";
    /** Strings with one admissible tree by OPERATORS, and below the root of each. */
    private static final String[] STRINGS = {"a", "(a)", "-a", "a!", "a+a", "((a))", "a+a+a", "a^a^a", "--a!!",
        "(a)+(a)", "a^(a+a)", "-(a)!", "a+a+a+a+a+a+a+a", "(((((((a)))))))", "-(-(-(-(-(a)))))", "a!!!!!!!!!!!!!!!"};
    private static final int[] ROOTS = {0, 0, 0, 1, 1, 0, 3, 1, 0, 3, 1, 0, 13, 0, 0, 15};

    private static Scene parsed(Check check, String tokens) {
        Scene scene = new Scene(check, 16, OPERATORS);
        scene.set(tokens);
        check.due("parse of " + tokens, scene.x.parse(), ONE);
        return scene;
    }

    private static void noRoot(Check check) {
        check.sentence("`root()` answers INVALID unless a result exists and treeCount() == ONE_TREE");
        check.due("root() on a fresh object", new PrecRewrite(8).root(), PrecRewrite.INVALID);
        Scene scene = new Scene(check, 16, OPERATORS);
        for (String tokens : STRINGS) {
            scene.set(tokens);
            check.due("root() before parse of " + tokens, scene.x.root(), PrecRewrite.INVALID);
            scene.x.parse();
            check.holds("root() after parse of " + tokens, scene.x.root() >= 0);
            scene.x.addToken(PrecRewrite.T_CLOSE, 0);
            scene.x.removeLast();
            check.due("root() after a change of " + tokens, scene.x.root(), PrecRewrite.INVALID);
        }
        for (String tokens : new String[] {"", "a+", "aa", "a=a=a", "(a=a=a)", "a|a"}) {
            scene.set(tokens);
            check.due("parse of " + tokens, scene.x.parse(), PrecRewrite.NO_TREE);
            check.due("root of " + tokens, scene.x.root(), PrecRewrite.INVALID);
        }
    }

    private static void rootToken(Check check) {
        check.sentence("then it answers the identifying token of the root node of the admissible tree (a position in"
                + " 0..n-1).");
        for (int i = 0; i < STRINGS.length; i++) {
            check.due("root of " + STRINGS[i], parsed(check, STRINGS[i]).x.root(), ROOTS[i]);
        }
    }

    /** INVALID without a result, without one tree, and outside the string; else what is there. */
    private static void validity(Check check, String call, Scene scene, IntUnaryOperator reader) {
        PrecRewrite x = scene.x;
        for (String tokens : STRINGS) {
            scene.set(tokens);
            isInvalid(check, call + " before parse", reader, x.tokenCount());
            x.parse();
            for (int i = 0; i < x.tokenCount(); i++) {
                check.holds(call + "(" + i + ") of " + tokens, reader.applyAsInt(i) >= PrecRewrite.NONE);
            }
            for (int i : Range.outside(0, x.tokenCount() - 1)) {
                check.due(call + "(" + i + ") of " + tokens, reader.applyAsInt(i), PrecRewrite.INVALID);
            }
            x.removeLast();
            isInvalid(check, call + " after a change", reader, x.tokenCount() + 1);
        }
        for (String tokens : new String[] {"", "a+", "aa", "a=a=a", "(a=a=a)", "a|a"}) {
            scene.set(tokens);
            x.parse();
            isInvalid(check, call + " of " + tokens, reader, x.tokenCount());
        }
    }

    private static void isInvalid(Check check, String call, IntUnaryOperator reader, int n) {
        for (int i = -1; i <= n; i++) {
            check.due(call + " at " + i, reader.applyAsInt(i), PrecRewrite.INVALID);
        }
    }

    private static void parentValidity(Check check) {
        check.sentence("`parent(i)` answers INVALID unless a result exists, treeCount() == ONE_TREE and i is in"
                + " 0..n-1.");
        Scene scene = new Scene(check, 16, OPERATORS);
        isInvalid(check, "parent on a fresh object", scene.x::parent, 16);
        validity(check, "parent", scene, scene.x::parent);
    }

    private static void spanValidity(Check check) {
        check.sentence("`spanFirst(i)` and `spanLast(i)` have the same validity as `parent(i)`: INVALID unless a result"
                + " exists, treeCount() == ONE_TREE and i is in 0..n-1.");
        Scene scene = new Scene(check, 16, OPERATORS);
        isInvalid(check, "spanFirst on a fresh object", scene.x::spanFirst, 16);
        isInvalid(check, "spanLast on a fresh object", scene.x::spanLast, 16);
        validity(check, "spanFirst", scene, scene.x::spanFirst);
        validity(check, "spanLast", scene, scene.x::spanLast);
    }

    private static void rootHasNone(Check check) {
        check.sentence("NONE if the node of token i is the root, else the identifying token of the parent of the node"
                + " of token i.");
        for (int s = 0; s < STRINGS.length; s++) {
            Scene scene = parsed(check, STRINGS[s]);
            boolean isParen = STRINGS[s].charAt(ROOTS[s]) == '(';
            for (int i = 0; i < STRINGS[s].length(); i++) {
                boolean isRoot = i == ROOTS[s] || isParen && i == STRINGS[s].length() - 1;
                String call = "parent(" + i + ") of " + STRINGS[s];
                check.holds(call, (scene.x.parent(i) == PrecRewrite.NONE) == isRoot);
                check.holds(call + " is below it", isRoot || scene.x.parent(i) >= 0);
            }
        }
    }

    // As many nodes as there can be, in a chain.
    private static void sixteenNodes(Check check) {
        check.sentence("else the identifying token of the parent of the node of token i.");
        Scene scene = new Scene(check, 16, OPERATORS);
        for (int round = 0; round < 2; round++) {
            scene.hasRoot("-".repeat(15) + "a", 1, 0);
            for (int i = 0; i < 16; i++) {
                isNode(check, scene.x, i, i - 1, i, 15);
            }
            scene.hasRoot("a" + "!".repeat(15), 1, 15);
            for (int i = 0; i < 16; i++) {
                isNode(check, scene.x, i, i == 15 ? PrecRewrite.NONE : i + 1, 0, i);
            }
            scene.hasRoot("a" + "+a".repeat(7) + "!", 1430, 13);
            scene.shape(13, "1:0:0", "3:0:2", "1:2:2", "5:0:4", "3:4:4", "7:0:6", "5:6:6", "9:0:8", "7:8:8", "11:0:10",
                    "9:10:10", "13:0:12", "11:12:12", "-1:0:15", "15:14:14", "13:14:15");
        }
    }

    private static void isNode(Check check, PrecRewrite x, int i, int parent, int first, int last) {
        check.due("parent(" + i + ")", x.parent(i), parent);
        check.due("spanFirst(" + i + ")", x.spanFirst(i), first);
        check.due("spanLast(" + i + ")", x.spanLast(i), last);
    }

    private static void closeIsAsOpen(Check check) {
        check.sentence("For a CLOSE token the node is the PAREN node whose span ends at i, so its answer equals that of"
                + " the matching OPEN.");
        Scene scene = parsed(check, "(a)");
        scene.shape(0, "-1:0:2", "0:1:1", "-1:0:2");
        scene = parsed(check, "((a))");
        scene.shape(0, "-1:0:4", "0:1:3", "1:2:2", "0:1:3", "-1:0:4");
        scene = parsed(check, "(a)+(a)");
        scene.shape(3, "3:0:2", "0:1:1", "3:0:2", "-1:0:6", "3:4:6", "4:5:5", "3:4:6");
        scene = parsed(check, "((a)+(a))");
        scene.shape(0, "-1:0:8", "4:1:3", "1:2:2", "4:1:3", "0:1:7", "4:5:7", "5:6:6", "4:5:7", "-1:0:8");
        scene = parsed(check, "-(a)!");
        scene.shape(0, "-1:0:4", "4:1:3", "1:2:2", "4:1:3", "0:1:4");
        scene = parsed(check, "(((((((a)))))))");
        for (int i = 0; i < 7; i++) {
            check.due("parent of CLOSE", scene.x.parent(14 - i), i - 1);
            check.due("parent of OPEN", scene.x.parent(i), i - 1);
            check.due("spanFirst of CLOSE", scene.x.spanFirst(14 - i), i);
            check.due("spanLast of CLOSE", scene.x.spanLast(14 - i), 14 - i);
        }
    }

    private static void spans(Check check) {
        check.sentence("Then `spanFirst(i)` answers the first position and `spanLast(i)` the last position of the span"
                + " of the node of token i in the admissible tree.");
        Scene scene = parsed(check, "a+a+a");
        scene.shape(3, "1:0:0", "3:0:2", "1:2:2", "-1:0:4", "3:4:4");
        scene = parsed(check, "a^a^a");
        scene.shape(1, "1:0:0", "-1:0:4", "3:2:2", "1:2:4", "3:4:4");
        scene = parsed(check, "a+a^a");
        scene.shape(1, "1:0:0", "-1:0:4", "3:2:2", "1:2:4", "3:4:4");
        scene = parsed(check, "a^a+a");
        scene.shape(3, "1:0:0", "3:0:2", "1:2:2", "-1:0:4", "3:4:4");
        scene = parsed(check, "--a!!");
        scene.shape(0, "-1:0:4", "0:1:4", "3:2:2", "4:2:3", "1:2:4");
        scene = parsed(check, "a^(a+a)");
        scene.shape(1, "1:0:0", "-1:0:6", "1:2:6", "4:3:3", "2:3:5", "4:5:5", "1:2:6");
        scene = new Scene(check, 16, "+L2 -P6 !Q5 ^R3 =N1");
        scene.parses("-a+(a^a^a!)=a+a", ONE, 70);
        scene.shape(11, "2:0:1", "0:1:1", "11:0:10", "2:3:10", "5:4:4", "3:4:9", "7:6:6", "5:6:9", "9:8:8",
                "7:8:9", "2:3:10", "-1:0:14", "13:12:12", "11:12:14", "13:14:14");
        scene.parses("((a+a)!^-(-a)^a)", ONE, 3);
        scene.shape(0, "-1:0:15", "6:1:5", "3:2:2", "1:2:4", "3:4:4", "6:1:5", "7:1:6", "0:1:14", "13:8:12",
                "8:9:12", "9:10:11", "10:11:11", "8:9:12", "7:8:14", "13:14:14", "-1:0:15");
    }

    private static void spansAtTheEnds(Check check) {
        check.sentence("For the root node these are 0 and n-1; for an ATOM node both equal i.");
        for (int s = 0; s < STRINGS.length; s++) {
            Scene scene = parsed(check, STRINGS[s]);
            check.due("spanFirst of the root of " + STRINGS[s], scene.x.spanFirst(ROOTS[s]), 0);
            check.due("spanLast of the root of " + STRINGS[s], scene.x.spanLast(ROOTS[s]), STRINGS[s].length() - 1);
            for (int i = 0; i < STRINGS[s].length(); i++) {
                if (STRINGS[s].charAt(i) == 'a') {
                    check.due("spanFirst of the atom " + i + " of " + STRINGS[s], scene.x.spanFirst(i), i);
                    check.due("spanLast of the atom " + i + " of " + STRINGS[s], scene.x.spanLast(i), i);
                }
            }
        }
    }

    private static void rootChangesNothing(Check check) {
        check.sentence("(a position in 0..n-1). It changes nothing.");
        Reading.changesNothing(check, "root", (x, i) -> x.root());
    }

    private static void parentChangesNothing(Check check) {
        check.sentence("so its answer equals that of the matching OPEN. It changes nothing.");
        Reading.changesNothing(check, "parent", PrecRewrite::parent);
    }

    private static void spansChangeNothing(Check check) {
        check.sentence("They change nothing.");
        Reading.changesNothing(check, "spanFirst", PrecRewrite::spanFirst);
        Reading.changesNothing(check, "spanLast", PrecRewrite::spanLast);
    }

    public static void main(String[] args) {
        Check check = new Check();
        noRoot(check);
        rootToken(check);
        rootChangesNothing(check);
        parentValidity(check);
        rootHasNone(check);
        sixteenNodes(check);
        closeIsAsOpen(check);
        parentChangesNothing(check);
        spanValidity(check);
        spans(check);
        spansAtTheEnds(check);
        spansChangeNothing(check);
        check.end();
    }
}
