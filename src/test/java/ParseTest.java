/** Promises 11 to 13: what parse answers, and both counts. */
final class ParseTest {
    private static final int NO = PrecRewrite.NO_TREE;
    private static final int ONE = PrecRewrite.ONE_TREE;

    private static void notExpressions(Check check) {
        Scene scene = new Scene(check, 8, "+L2 -P4 !Q6");
        for (String tokens : new String[] {"", "aa", "(", ")", "()", ")(", "(a", "a)", ")a(", "(a))", "((a)",
                "+", "-", "!", "a+", "+a", "a-", "!a", "-!", "a-a", "a!a", "a++a", "(a)(a)", "a(a)", "(a)a",
                "(+)", "(a+)a", "a+()", "-(", "a=a", "=", "a+(=)", "?a", "a~"}) {
            scene.parses(tokens, NO, 0);
            scene.hasNoShape("of " + tokens);
        }
    }

    private static void undeclaredSymbol(Check check) {
        Scene scene = new Scene(check, 8, "");
        for (int symbol = 0; symbol < 16; symbol++) {
            scene.set("a");
            scene.x.addToken(PrecRewrite.T_OP, symbol);
            scene.add("a");
            check.due("parse() with symbol " + symbol, scene.x.parse(), NO);
            check.due("forestSize() with symbol " + symbol, scene.x.forestSize(), 0);
            scene.x.declare(symbol, PrecRewrite.NONASSOC, 1);
            check.due("parse() with symbol " + symbol, scene.x.parse(), ONE);
            check.due("forestSize() with symbol " + symbol, scene.x.forestSize(), 1);
            scene.x.undeclare(symbol);
            check.due("parse() with symbol " + symbol, scene.x.parse(), NO);
            check.due("forestSize() with symbol " + symbol, scene.x.forestSize(), 0);
        }
    }

    private static void associativity(Check check) {
        Scene scene = new Scene(check, 16, "+L2 *L2 ^R3 &R3 =N1 <N1 >N5");
        scene.parses("a+a", ONE, 1);
        scene.parses("a=a", ONE, 1);
        scene.parses("a+a+a", ONE, 2);
        scene.parses("a+a*a+a", ONE, 5);
        scene.parses("a^a&a^a", ONE, 5);
        scene.parses("a=a=a", NO, 2);
        scene.parses("a=a<a", NO, 2);
        scene.parses("a=a>a", ONE, 2);
        scene.parses("a>a=a", ONE, 2);
        scene.parses("a>a+a>a", ONE, 5);
        scene.parses("a>a>a+a", NO, 5);
        scene.parses("a+a=a+a", ONE, 5);
        scene.parses("a=a+a=a", NO, 5);
        scene.parses("a=(a=a)", ONE, 1);
        scene.parses("(a=a)=a", ONE, 1);
        scene.parses("(a=a=a)", NO, 2);
        scene.parses("a+(a=a=a)", NO, 2);
        scene.parses("((a=a))<(a)", ONE, 1);
    }

    // The rules that look past the direct child of a node.
    private static void deepEdges(Check check) {
        Scene scene = new Scene(check, 16, "-P1 +L2 *L3 !Q4 ^R5 =N6");
        scene.parses("a*-a+a", ONE, 3);
        scene.parses("a^a*-a+a", ONE, 7);
        scene.parses("-a+-a*a!", ONE, 23);
        scene.parses("a=-a=a", ONE, 3);
        scene.parses("a=-a=a=a", NO, 9);
        scene.parses("(a=-a)=a", ONE, 1);
        Scene low = new Scene(check, 16, "-P6 +L5 *L4 !Q1 ^R2 =N3");
        low.parses("a+a*-a!", ONE, 7);
        low.parses("a=a!=a", ONE, 3);
        low.parses("-a=a!=-a", ONE, 9);
        low.parses("a^a!^a", ONE, 3);
    }

    private static void forests(Check check) {
        Scene scene = new Scene(check, 16, "+L1 *R2 =N3 -P4 !Q5");
        String[] infix = {"a", "a+a", "a+a*a", "a+a*a=a", "a+a+a+a+a", "a*a*a*a*a*a", "a+a+a+a+a+a+a",
                "a=a+a*a+a=a*a+a"};
        int[] catalan = {1, 1, 2, 5, 14, 42, 132, 429};
        for (int i = 0; i < infix.length; i++) {
            scene.set(infix[i]);
            scene.x.parse();
            check.due("forestSize of " + infix[i], scene.x.forestSize(), catalan[i]);
        }
        // The largest forests that 16 tokens make are among these: 6435 trees.
        for (int before = 0; before <= 15; before++) {
            int choose = 1;
            for (int after = 0; before + after <= 15; after++) {
                scene.parses("-".repeat(before) + "a" + "!".repeat(after), ONE, choose);
                choose = choose * (before + after + 1) / (after + 1);
            }
        }
        scene.parses("((((((a))))))", ONE, 1);
        scene.parses("(((((((a)))))))", ONE, 1);
        scene.parses("(-a!)+(-a!)", ONE, 4);
        scene.parses("-(-a!)!+(a+a+a)", ONE, 12);
    }

    public static void main(String[] args) {
        Check check = new Check();
        notExpressions(check);
        undeclaredSymbol(check);
        associativity(check);
        deepEdges(check);
        forests(check);
        check.end();
    }
}
