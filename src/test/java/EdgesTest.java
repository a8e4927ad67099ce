/**
 * The document's terms: edges and admissible trees, with every level against
 * every other. The levels of two kinds differ, because a level holds one kind.
 */
final class EdgesTest {
    private static final int NO = PrecRewrite.NO_TREE;
    private static final String[] INFIX_KINDS = {"L", "R", "N"};

    private interface TwoLevels {
        void test(int p, int q);
    }

    private static void eachTwoLevels(TwoLevels it) {
        for (int pair = 0; pair < 36; pair++) {
            it.test(pair / 6 + 1, pair % 6 + 1);
        }
    }

    /** Two levels and an infix kind of the second, which is another level. */
    private interface LevelAndInfix {
        void test(int p, String infix, int m);
    }

    private static void eachLevelAndInfix(LevelAndInfix it) {
        eachTwoLevels((p, m) -> {
            for (String kind : INFIX_KINDS) {
                if (p != m) {
                    it.test(p, kind + m, m);
                }
            }
        });
    }

    /** Two infix symbols, + and *, of any kinds and levels that can be declared together. */
    private interface TwoInfix {
        void test(String plus, String times, int root);
    }

    // Of "a+a*a", the root is 3 or 1 as + or * binds tighter; it is -1 where neither tree is admissible.
    private static void eachTwoInfix(TwoInfix it) {
        eachTwoLevels((p, q) -> {
            for (String one : INFIX_KINDS) {
                for (String two : INFIX_KINDS) {
                    if (p != q) {
                        it.test("+" + one + p, "*" + two + q, p > q ? 3 : 1);
                    } else if (one.equals(two)) {
                        it.test("+" + one + p, "*" + two + q, one.equals("L") ? 3 : one.equals("R") ? 1 : -1);
                    }
                }
            }
        });
    }

    private static int levelOf(String declaration) {
        return declaration.charAt(2) - '0';
    }

    private static void rootOrNone(Scene scene, String tokens, int forest, int root) {
        if (root < 0) {
            scene.parses(tokens, NO, forest);
        } else {
            scene.hasRoot(tokens, forest, root);
        }
    }

    private static void everyLevelTakesAtoms(Check check) {
        check.sentence("For a tree T, LE(T) and RE(T) are in 1..7 (7 stands for none)");
        for (int level = 1; level <= 6; level++) {
            new Scene(check, 8, "-P" + level).hasRoot("-a", 1, 0);
            new Scene(check, 8, "!Q" + level).hasRoot("a!", 1, 1);
            for (String kind : INFIX_KINDS) {
                new Scene(check, 8, "+" + kind + level).hasRoot("a+a", 1, 1);
            }
        }
    }

    private static void parensHide(Check check) {
        check.sentence("ATOM, PAREN: LE = 7, RE = 7.");
        eachLevelAndInfix((p, infix, m) -> {
            Scene prefix = new Scene(check, 8, "-P" + p + " +" + infix);
            prefix.hasRoot("-(a+a)", 1, 0);
            prefix.hasRoot("(-a)+a", 1, 4);
            prefix.hasRoot("a+(-a)", 1, 1);
            Scene postfix = new Scene(check, 8, "!Q" + p + " +" + infix);
            postfix.hasRoot("(a+a)!", 1, 5);
            postfix.hasRoot("a+(a!)", 1, 1);
            postfix.hasRoot("(a!)+a", 1, 4);
        });
        eachTwoInfix((plus, times, root) -> {
            Scene scene = new Scene(check, 8, plus + " " + times);
            scene.hasRoot("(a+a)*a", 1, 5);
            scene.hasRoot("a+(a*a)", 1, 1);
        });
    }

    private static void prefixLeftEdge(Check check) {
        check.sentence("PREFIX level p, child c: LE = 7");
        eachLevelAndInfix((p, infix, m) -> new Scene(check, 8, "-P" + p + " +" + infix).hasRoot("a+-a", 1, 1));
        eachTwoLevels((p, q) -> {
            Scene scene = new Scene(check, 8, "-P" + p + " ~P" + q);
            scene.hasRoot("~-a", 1, 0);
            scene.hasRoot("--~a", 1, 0);
        });
        eachTwoInfix((plus, times, root) -> {
            for (int p = 1; p < levelOf(times); p++) {
                if (p != levelOf(plus)) {
                    new Scene(check, 8, "-P" + p + " " + plus + " " + times).hasRoot("a+-a*a", 3, 1);
                }
            }
        });
    }

    // The inner prefix shows through the outer one, so it takes the infix although the outer one binds tighter.
    private static void prefixRightEdge(Check check) {
        check.sentence("RE = min(p, RE(c))");
        eachLevelAndInfix((p, infix, m) -> {
            for (int q = 1; q <= 6; q++) {
                if (q != m) {
                    Scene scene = new Scene(check, 8, "-P" + p + " ~P" + q + " +" + infix);
                    scene.hasRoot("~-a+a", 3, p > m && q > m ? 3 : 0);
                    check.due("spanLast(1)", scene.x.spanLast(1), p > m ? 2 : 4);
                }
            }
        });
    }

    private static void postfixRightEdge(Check check) {
        check.sentence("LE = min(p, LE(c)), RE = 7.");
        eachLevelAndInfix((p, infix, m) -> new Scene(check, 8, "!Q" + p + " +" + infix).hasRoot("a!+a", 1, 2));
        eachTwoLevels((p, q) -> {
            Scene scene = new Scene(check, 8, "!Q" + p + " #Q" + q);
            scene.hasRoot("a!#", 1, 2);
            scene.hasRoot("a#!!", 1, 3);
        });
        eachTwoInfix((plus, times, root) -> {
            for (int p = 1; p < levelOf(plus); p++) {
                if (p != levelOf(times)) {
                    new Scene(check, 8, "!Q" + p + " " + plus + " " + times).hasRoot("a+a!*a", 3, 4);
                }
            }
        });
    }

    private static void postfixLeftEdge(Check check) {
        check.sentence("POSTFIX level p, child c: LE = min(p, LE(c))");
        eachLevelAndInfix((p, infix, m) -> {
            for (int q = 1; q <= 6; q++) {
                if (q != m) {
                    Scene scene = new Scene(check, 8, "!Q" + p + " #Q" + q + " +" + infix);
                    scene.hasRoot("a+a!#", 3, p > m && q > m ? 1 : 4);
                    check.due("spanFirst(3)", scene.x.spanFirst(3), p > m ? 2 : 0);
                }
            }
        });
    }

    // A prefix in the right operand shows through the infix above it.
    private static void infixRightEdge(Check check) {
        check.sentence("RE = min(p, RE(r))");
        eachTwoInfix((plus, times, root) -> {
            for (int p = 1; p <= 6; p++) {
                int m = levelOf(times);
                if (p != m && p != levelOf(plus)) {
                    Scene scene = new Scene(check, 8, "-P" + p + " " + plus + " " + times);
                    int due = p < m ? 1 : root == 3 ? 4 : root;
                    rootOrNone(scene, "a+-a*a", 3, due);
                    check.due("spanLast(2)", scene.x.spanLast(2), due < 0 ? PrecRewrite.INVALID : p < m ? 5 : 3);
                }
            }
        });
    }

    private static void infixLeftEdge(Check check) {
        check.sentence("INFIX level p, children l, r: LE = min(p, LE(l))");
        eachTwoInfix((plus, times, root) -> {
            for (int p = 1; p <= 6; p++) {
                int m = levelOf(plus);
                if (p != m && p != levelOf(times)) {
                    Scene scene = new Scene(check, 8, "!Q" + p + " " + plus + " " + times);
                    int due = p < m ? 4 : root == 3 ? 4 : root;
                    rootOrNone(scene, "a+a!*a", 3, due);
                    check.due("spanFirst(3)", scene.x.spanFirst(3), due < 0 ? PrecRewrite.INVALID : p < m ? 0 : 2);
                }
            }
        });
    }

    private static void prefixCondition(Check check) {
        check.sentence("PREFIX level p, child c: LE(c) > p.");
        eachLevelAndInfix((p, infix, m) -> {
            Scene scene = new Scene(check, 8, "-P" + p + " +" + infix);
            scene.hasRoot("-a+a", 2, p > m ? 2 : 0);
        });
        eachTwoLevels((p, q) -> {
            if (p != q) {
                new Scene(check, 8, "-P" + p + " !Q" + q).hasRoot("-a!", 2, q > p ? 0 : 2);
            }
        });
    }

    private static void postfixCondition(Check check) {
        check.sentence("POSTFIX level p, child c: RE(c) > p.");
        eachLevelAndInfix((p, infix, m) -> {
            Scene scene = new Scene(check, 8, "!Q" + p + " +" + infix);
            scene.hasRoot("a+a!", 2, p > m ? 1 : 3);
        });
        eachTwoLevels((p, q) -> {
            if (p != q) {
                new Scene(check, 8, "-P" + p + " !Q" + q).hasRoot("--a!", 3, q > p ? 0 : 3);
            }
        });
    }

    private static void infixCondition(Check check) {
        check.sentence("INFIX level p, kind K, children l, r: (RE(l) > p, or RE(l) == p and K == LEFT) and (LE(r) > p,"
                + " or LE(r) == p and K == RIGHT).");
        eachTwoInfix((plus, times, root) -> {
            Scene scene = new Scene(check, 8, plus + " " + times);
            rootOrNone(scene, "a+a*a", 2, root);
        });
        for (int level = 1; level <= 6; level++) {
            new Scene(check, 8, "+L" + level).hasRoot("a+a+a", 2, 3);
            new Scene(check, 8, "+R" + level).hasRoot("a+a+a", 2, 1);
            new Scene(check, 8, "+N" + level).parses("a+a+a", NO, 2);
            new Scene(check, 8, "+L" + level).hasRoot("a+a+a+a", 5, 5);
            new Scene(check, 8, "+R" + level).hasRoot("a+a+a+a", 5, 1);
            new Scene(check, 8, "+N" + level).parses("a+a+a+a", NO, 5);
        }
    }

    private static void tighter(Check check) {
        check.sentence("A higher level binds tighter.");
        for (int level = 1; level < 6; level++) {
            Scene scene = new Scene(check, 8, "+L" + level + " *L" + (level + 1));
            scene.hasRoot("a+a*a", 2, 1);
            scene.hasRoot("a*a+a", 2, 3);
        }
        Scene all = new Scene(check, 16, "+L1 *L2 ^L3 =L4 &L5 <L6");
        all.parses("a+a*a^a=a&a<a", PrecRewrite.ONE_TREE, 132);
        all.shape(1, "1:0:0", "-1:0:12", "3:2:2", "1:2:12", "5:4:4", "3:4:12", "7:6:6", "5:6:12", "9:8:8", "7:8:12",
                "11:10:10", "9:10:12", "11:12:12");
        all.parses("a<a&a=a^a*a+a", PrecRewrite.ONE_TREE, 132);
        all.shape(11, "1:0:0", "3:0:2", "1:2:2", "5:0:4", "3:4:4", "7:0:6", "5:6:6", "9:0:8", "7:8:8", "11:0:10",
                "9:10:10", "-1:0:12", "11:12:12");
    }

    private static void anyDepth(Check check) {
        check.sentence("A tree is admissible iff every node of it (at any depth, inside parentheses too) meets its"
                + " condition");
        Scene scene = new Scene(check, 16, "=N1 <N1 +L2 -P6 !Q5");
        for (String tokens : new String[] {"a=a=a", "(a=a=a)", "((((a=a<a))))", "-(a=a=a)", "(a<a=a)!", "a+(a=a=a)",
            "(a=a=a)+a", "(a=a=a)=a", "a+(a+(a=a=a))", "-(-((a=a=a)))"}) {
            scene.parses(tokens, NO, 2);
            scene.hasNoShape("of " + tokens);
        }
        scene.parses("(a=a=a)+(a=a)+a", NO, 4);
        scene.hasRoot("(a=a)=a", 1, 5);
        scene.hasRoot("a=(a=a)", 1, 1);
        scene.hasRoot("((a=a))<(a)", 1, 7);
        scene.hasRoot("((a=a)=(a=a))=a", 1, 13);
    }

    private static void noConditionOfTheirOwn(Check check) {
        check.sentence("ATOM, PAREN: no condition of their own.");
        eachTwoInfix((plus, times, root) -> {
            Scene scene = new Scene(check, 8, plus + " " + times);
            scene.hasRoot("a", 1, 0);
            scene.hasRoot("((a))", 1, 0);
            scene.hasRoot("(a+a)", 1, 0);
            rootOrNone(scene, "(a+a*a)", 2, root < 0 ? -1 : 0);
        });
        eachLevelAndInfix((p, infix, m) -> {
            new Scene(check, 8, "-P" + p + " +" + infix).hasRoot("(-a+a)", 2, 0);
            new Scene(check, 8, "!Q" + p + " +" + infix).hasRoot("((a+a!))", 2, 0);
        });
    }

    // The rules that look past the direct child of a node, in longer strings.
    private static void deepEdges(Check check) {
        check.sentence("The filtered forest is the set of admissible trees of the forest.");
        Scene scene = new Scene(check, 16, "-P1 +L2 *L3 !Q4 ^R5 =N6");
        scene.hasRoot("a*-a+a", 3, 1);
        scene.hasRoot("a^a*-a+a", 7, 3);
        scene.hasRoot("-a+-a*a!", 23, 0);
        scene.hasRoot("a=-a=a", 3, 1);
        scene.parses("a=-a=a=a", NO, 9);
        Scene low = new Scene(check, 16, "-P6 +L5 *L4 !Q1 ^R2 =N3");
        low.hasRoot("a+a*-a!", 7, 6);
        low.hasRoot("a=a!=a", 3, 4);
        low.hasRoot("-a=a!=-a", 9, 5);
        low.hasRoot("a^a!^a", 3, 4);
    }

    public static void main(String[] args) {
        Check check = new Check();
        tighter(check);
        everyLevelTakesAtoms(check);
        parensHide(check);
        prefixLeftEdge(check);
        prefixRightEdge(check);
        postfixLeftEdge(check);
        postfixRightEdge(check);
        infixLeftEdge(check);
        infixRightEdge(check);
        anyDepth(check);
        prefixCondition(check);
        postfixCondition(check);
        infixCondition(check);
        noConditionOfTheirOwn(check);
        deepEdges(check);
        check.end();
    }
}
