/** Promises 14 to 16: root, parent, spanFirst and spanLast of the one tree. */
final class TreeShapeTest {
    private static void single(Scene scene) {
        scene.parses("a", PrecRewrite.ONE_TREE, 1);
        scene.shape(0, "-1:0:0");
        scene.parses("(a)", PrecRewrite.ONE_TREE, 1);
        scene.shape(0, "-1:0:2", "0:1:1", "-1:0:2");
        scene.parses("-a", PrecRewrite.ONE_TREE, 1);
        scene.shape(0, "-1:0:1", "0:1:1");
        scene.parses("a!", PrecRewrite.ONE_TREE, 1);
        scene.shape(1, "1:0:0", "-1:0:1");
        scene.parses("a+a", PrecRewrite.ONE_TREE, 1);
        scene.shape(1, "1:0:0", "-1:0:2", "1:2:2");
    }

    private static void chains(Scene scene) {
        scene.parses("a+a+a", PrecRewrite.ONE_TREE, 2);
        scene.shape(3, "1:0:0", "3:0:2", "1:2:2", "-1:0:4", "3:4:4");
        scene.parses("a^a^a", PrecRewrite.ONE_TREE, 2);
        scene.shape(1, "1:0:0", "-1:0:4", "3:2:2", "1:2:4", "3:4:4");
        scene.parses("a+a^a", PrecRewrite.ONE_TREE, 2);
        scene.shape(1, "1:0:0", "-1:0:4", "3:2:2", "1:2:4", "3:4:4");
        scene.parses("a^a+a", PrecRewrite.ONE_TREE, 2);
        scene.shape(3, "1:0:0", "3:0:2", "1:2:2", "-1:0:4", "3:4:4");
        scene.parses("--a!!", PrecRewrite.ONE_TREE, 6);
        scene.shape(0, "-1:0:4", "0:1:4", "3:2:2", "4:2:3", "1:2:4");
    }

    private static void parens(Scene scene) {
        scene.parses("((a))", PrecRewrite.ONE_TREE, 1);
        scene.shape(0, "-1:0:4", "0:1:3", "1:2:2", "0:1:3", "-1:0:4");
        scene.parses("(a)+(a)", PrecRewrite.ONE_TREE, 1);
        scene.shape(3, "3:0:2", "0:1:1", "3:0:2", "-1:0:6", "3:4:6", "4:5:5", "3:4:6");
        scene.parses("a^(a+a)", PrecRewrite.ONE_TREE, 1);
        scene.shape(1, "1:0:0", "-1:0:6", "1:2:6", "4:3:3", "2:3:5", "4:5:5", "1:2:6");
        scene.parses("-(a)!", PrecRewrite.ONE_TREE, 2);
        scene.shape(0, "-1:0:4", "4:1:3", "1:2:2", "4:1:3", "0:1:4");
    }

    // A prefix operator of a low level takes all that follows, wherever it stands.
    private static void lowPrefix(Check check) {
        Scene scene = new Scene(check, 8, "-P1 +L2 *L3");
        scene.parses("a*-a+a", PrecRewrite.ONE_TREE, 3);
        scene.shape(1, "1:0:0", "-1:0:5", "1:2:5", "4:3:3", "2:3:5", "4:5:5");
        Scene high = new Scene(check, 8, "-P6 +L2 *L3");
        high.parses("a*-a+a", PrecRewrite.ONE_TREE, 3);
        high.shape(4, "1:0:0", "4:0:3", "1:2:3", "2:3:3", "-1:0:5", "4:5:5");
    }

    private static void lowPostfix(Check check) {
        Scene scene = new Scene(check, 8, "!Q1 +L2 *L3");
        scene.parses("a+a!*a", PrecRewrite.ONE_TREE, 3);
        scene.shape(4, "1:0:0", "3:0:2", "1:2:2", "4:0:3", "-1:0:5", "4:5:5");
    }

    private static void fullString(Check check) {
        Scene scene = new Scene(check, 99, "+L2 -P6 !Q5 ^R3 =N1");
        scene.parses("-a+(a^a^a!)=a+a", PrecRewrite.ONE_TREE, 70);
        scene.shape(11, "2:0:1", "0:1:1", "11:0:10", "2:3:10", "5:4:4", "3:4:9", "7:6:6", "5:6:9", "9:8:8",
                "7:8:9", "2:3:10", "-1:0:14", "13:12:12", "11:12:14", "13:14:14");
        scene.parses("((a+a)!^-(-a)^a)", PrecRewrite.ONE_TREE, 3);
        scene.shape(0, "-1:0:15", "6:1:5", "3:2:2", "1:2:4", "3:4:4", "6:1:5", "7:1:6", "0:1:14", "13:8:12",
                "8:9:12", "9:10:11", "10:11:11", "8:9:12", "7:8:14", "13:14:14", "-1:0:15");
    }

    public static void main(String[] args) {
        Check check = new Check();
        Scene scene = new Scene(check, 8, "-P1 +L2 ^R3 !Q4");
        single(scene);
        chains(scene);
        parens(scene);
        lowPrefix(check);
        lowPostfix(check);
        fullString(check);
        check.end();
    }
}
