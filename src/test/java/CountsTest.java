import java.util.function.ToIntFunction;

/** Promises 12 and 13: treeCount and forestSize. */
final class CountsTest {
    private static final int NO = PrecRewrite.NO_TREE;
    private static final int ONE = PrecRewrite.ONE_TREE;

    private static void noTreeCount(Check check) {
        check.sentence("`treeCount()` answers NO_RESULT without a result");
        needsResult(check, "treeCount()", PrecRewrite::treeCount);
    }

    private static void noForestSize(Check check) {
        check.sentence("`forestSize()` answers NO_RESULT without a result");
        needsResult(check, "forestSize()", PrecRewrite::forestSize);
    }

    private static void needsResult(Check check, String call, ToIntFunction<PrecRewrite> reader) {
        check.due(call + " on a fresh object", reader.applyAsInt(new PrecRewrite(8)), PrecRewrite.NO_RESULT);
        for (String tokens : Scene.STRINGS) {
            Scene scene = Scene.state(check, tokens, false);
            check.due(call + " " + scene.name, reader.applyAsInt(scene.x), PrecRewrite.NO_RESULT);
            scene.x.parse();
            check.holds(call + " after parse()", reader.applyAsInt(scene.x) >= 0);
            scene.x.clearTokens();
            check.due(call + " after clearTokens()", reader.applyAsInt(scene.x), PrecRewrite.NO_RESULT);
        }
    }

    // A level holds one kind, and then no string has two admissible trees: MANY_TREES can't be tested.
    private static void noneOrOne(Check check) {
        check.sentence("otherwise min(number of admissible trees, 2): NO_TREE, ONE_TREE or MANY_TREES.");
        Scene scene = new Scene(check, 16, "+L2 *L2 ^R3 &R3 =N1 <N1 >N5");
        scene.parses("", NO, 0);
        scene.parses("a", ONE, 1);
        scene.parses("aa", NO, 0);
        scene.parses("a=a", ONE, 1);
        scene.parses("a=a=a", NO, 2);
        scene.parses("a=a<a", NO, 2);
        scene.parses("a=a>a", ONE, 2);
        scene.parses("a>a=a", ONE, 2);
        scene.parses("a+a*a+a", ONE, 5);
        scene.parses("a^a&a^a", ONE, 5);
        scene.parses("a>a+a>a", ONE, 5);
        scene.parses("a>a>a+a", NO, 5);
        scene.parses("a+a=a+a", ONE, 5);
        scene.parses("a=a+a=a", NO, 5);
        scene.parses("a+a+a+a+a+a+a+a", ONE, 429);
        scene.parses("a=a=a=a=a=a=a=a", NO, 429);
    }

    private static void admissibleOrNot(Check check) {
        check.sentence("with no admissibility asked");
        for (String kind : new String[] {"L", "R", "N"}) {
            Scene scene = new Scene(check, 16, "+" + kind + "3");
            int[] due = {1, 1, 2, 5, 14, 42, 132, 429};
            for (int operators = 0; operators < 8; operators++) {
                boolean isOne = operators < 2 || !kind.equals("N");
                scene.parses("a" + "+a".repeat(operators), isOne ? ONE : NO, due[operators]);
            }
        }
        Scene scene = new Scene(check, 8, "-P1 !Q2 =N3");
        scene.parses("a=a=a", NO, 2);
        scene.parses("-a=a!=a", ONE, 9);
    }

    /** The number of trees, counted from the grammar alone: - prefix, ! postfix, + infix. */
    private static long trees(String s) {
        int n = s.length();
        long[] count = new long[(n + 1) * (n + 1)];
        for (int i = n - 1; i >= 0; i--) {
            count[i * n + i] = s.charAt(i) == 'a' ? 1 : 0;
            for (int j = i + 1; j < n; j++) {
                boolean isParen = s.charAt(i) == '(' && s.charAt(j) == ')' && j > i + 1;
                long sum = isParen ? count[(i + 1) * n + j - 1] : 0;
                sum += s.charAt(i) == '-' ? count[(i + 1) * n + j] : 0;
                sum += s.charAt(j) == '!' ? count[i * n + j - 1] : 0;
                for (int k = i + 1; k < j; k++) {
                    sum += s.charAt(k) == '+' ? count[i * n + k - 1] * count[(k + 1) * n + j] : 0;
                }
                count[i * n + j] = sum;
            }
        }
        return count[n - 1];
    }

    /** An expression of n tokens without parentheses; each bit of the pattern is one choice. */
    private static String expression(int n, int pattern) {
        StringBuilder s = new StringBuilder();
        boolean afterAtom = false;
        for (int i = 0; i < n; i++) {
            boolean bit = (pattern >> i & 1) == 1;
            s.append(afterAtom ? bit ? '+' : '!' : bit && i < n - 1 ? '-' : 'a');
            afterAtom = afterAtom ? !bit : s.charAt(i) == 'a';
        }
        return s.toString();
    }

    private static void trueNumber(Check check) {
        check.sentence("The count is the true number of distinct trees (trees being equal as defined above)");
        Scene scene = new Scene(check, 16, "+L2 -P4 !Q3");
        for (int n = 1; n <= 11; n++) {
            for (int pattern = 0; pattern < 1 << n; pattern++) {
                hasTrueForest(check, scene, expression(n, pattern));
            }
        }
        for (String tokens : new String[] {"((((((a))))))", "(((((((a)))))))", "(-a!)+(-a!)", "-(-a!)!+(a+a+a)",
            "(-a!+a)+(a+-a!)!", "-(-(-(-a!)!)!)!", "((-a+a)!+a)!+a!"}) {
            hasTrueForest(check, scene, tokens);
        }
    }

    private static void hasTrueForest(Check check, Scene scene, String tokens) {
        scene.set(tokens);
        scene.x.parse();
        check.due("forestSize of " + tokens, scene.x.forestSize(), trees(tokens));
    }

    // The largest forest of 16 tokens is below the cap, so only the number itself can be tested.
    private static void largest(Check check) {
        check.sentence("capped at FOREST_CAP (it is not said whether any input within the capacity reaches this cap),"
                + " never wrapped.");
        Scene scene = new Scene(check, 16, "+L1 -P4 !Q5");
        for (int before = 0; before <= 15; before++) {
            int choose = 1;
            for (int after = 0; before + after <= 15; after++) {
                scene.parses("-".repeat(before) + "a" + "!".repeat(after), ONE, choose);
                choose = choose * (before + after + 1) / (after + 1);
            }
        }
        scene.parses("-------a!!!!!!!!", ONE, 6435);
        scene.parses("--------a!!!!!!!", ONE, 6435);
        for (int pattern = 0; pattern < 1 << 16; pattern += 23) {
            String tokens = expression(16, pattern);
            check.holds(tokens + " is below the cap", trees(tokens) <= 6435);
            hasTrueForest(check, scene, tokens);
        }
    }

    private static void treeCountChangesNothing(Check check) {
        check.sentence("NO_TREE, ONE_TREE or MANY_TREES. It changes nothing.");
        Reading.changesNothing(check, "treeCount", (x, i) -> x.treeCount());
    }

    private static void forestSizeChangesNothing(Check check) {
        check.sentence("never wrapped. It changes nothing.");
        Reading.changesNothing(check, "forestSize", (x, i) -> x.forestSize());
    }

    public static void main(String[] args) {
        Check check = new Check();
        noTreeCount(check);
        noneOrOne(check);
        treeCountChangesNothing(check);
        noForestSize(check);
        admissibleOrNot(check);
        trueNumber(check);
        largest(check);
        forestSizeChangesNothing(check);
        check.end();
    }
}
