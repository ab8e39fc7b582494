import java.util.NoSuchElementException;

/** Promises 8 and 9: the tree's nodes, their kinds, tokens and parts, and how deep it may be. */
public final class TreeTest {
    private static final int DEEP = 3;
    private static final int GRAMMAR = 9;

    private TreeTest() {
    }

    public static void main(String[] arguments) {
        smallStatements();
        greatStatements();
        expressions();
        whatBelongsTogether();
        heights();
        opens();
        opensThatAreClosed();
        wrongQuestions();
        Check.finish();
    }

    private static void tree(String text, String due) {
        Check.same(Check.show(text) + " tree", Check.tree(Check.accepted(text)), due);
    }

    /** The tree of a text that is one expression, without what is around it. */
    private static void expression(String text, String due) {
        String all = Check.tree(Check.accepted(text));
        String token = due.substring(due.indexOf('@'), due.length());
        int end = token.indexOf('(');
        token = end < 0 ? token : token.substring(0, end);
        Check.same(Check.show(text) + " tree", all, "9" + token + "(5" + token + "(" + due + "))");
    }

    private static void smallStatements() {
        tree("", "9@0");
        tree("\n#\n", "9@0");
        tree("pass", "9@0(1@0)");
        tree("break\n", "9@0(2@0)");
        tree("return", "9@0(3@0)");
        tree("return a", "9@0(3@0(20@1))");
        tree("a = b", "9@0(4@0(20@2))");
        tree("a", "9@0(5@0(20@0))");
        tree("a + b", "9@1(5@1(15@1(20@0 20@2)))");
        tree("(a)", "9@1(5@1(20@1))");
        tree("a; b = c;pass;", "9@0(5@0(20@0) 4@2(20@4) 1@6)");
        tree("return;return b\nc", "9@0(3@0 3@2(20@3) 5@5(20@5))");
        tree("a == b\nc", "9@1(5@1(14@1(20@0 20@2)) 5@4(20@4))");
    }

    private static void greatStatements() {
        tree("if a: b", "9@0(6@0(20@1 9@3(5@3(20@3))))");
        tree("if a:\n b\n c", "9@0(6@0(20@1 9@5(5@5(20@5) 5@7(20@7))))");
        tree("if a: b;pass\nelse: c.d", "9@0(6@0(20@1 9@3(5@3(20@3) 1@5) 9@11(5@11(19@11(20@9)))))");
        tree("if a: b\nelif c: d", "9@0(6@0(20@1 9@3(5@3(20@3)) 6@5(20@6 9@8(5@8(20@8)))))");
        tree("if a:pass\nelif b:pass\nelif c:pass\nelse:pass\nd", "9@0(6@0(20@1 9@3(1@3) "
                + "6@5(20@6 9@8(1@8) 6@10(20@11 9@13(1@13) 9@17(1@17)))) 5@19(20@19))");
        tree("if a:\n if b:pass\nelse:pass", "9@0(6@0(20@1 9@5(6@5(20@6 9@8(1@8))) 9@13(1@13)))");
        tree("if a:\n if b:pass\n else:pass", "9@0(6@0(20@1 9@5(6@5(20@6 9@8(1@8) 9@12(1@12)))))");
        tree("if a:pass\nelse:\n if b:pass", "9@0(6@0(20@1 9@3(1@3) 9@9(6@9(20@10 9@12(1@12)))))");
        tree("while a: break", "9@0(7@0(20@1 9@3(2@3)))");
        tree("def f(): pass", "9@1(8@1(9@5(1@5)))");
        tree("def f(a): pass", "9@1(8@1(24@3 9@6(1@6)))");
        tree("def f(a, b, c):\n return", "9@1(8@1(24@3 24@5 24@7 9@12(3@12)))");
        tree("while a:\n def f():\n  b = c", "9@0(7@0(20@1 9@6(8@6(9@12(4@12(20@14))))))");
    }

    private static void expressions() {
        expression("1", "21@0");
        expression("'a'", "22@0");
        expression("[]", "23@0");
        expression("[a]", "23@0(20@1)");
        expression("[a, 1, 'b']", "23@0(20@1 21@3 22@5)");
        expression("f()", "17@1(20@0)");
        expression("f(a)", "17@1(20@0 20@2)");
        expression("f(a, [b], c)", "17@1(20@0 20@2 23@4(20@5) 20@8)");
        expression("a[b]", "18@1(20@0 20@2)");
        expression("a.b", "19@2(20@0)");
        expression("a.b(c)[d].e", "19@10(18@6(17@3(19@2(20@0) 20@4) 20@7))");
        expression("1(2)", "17@1(21@0 21@2)");
        expression("[a][b]", "18@3(23@0(20@1) 20@4)");
        expression("not a", "13@0(20@1)");
        expression("-a", "16@0(20@1)");
        expression("a or b", "11@1(20@0 20@2)");
        expression("a and b", "12@1(20@0 20@2)");
        String[] compares = {"==", "!=", "<", ">", "<=", ">="};
        for (String sign : compares) {
            expression("a" + sign + "b", "14@1(20@0 20@2)");
        }
        String[] sums = {"+", "-", "*", "/", "%"};
        for (String sign : sums) {
            expression("a" + sign + "b", "15@1(20@0 20@2)");
        }
        expression("((a))", "20@2");
        expression("(a)(b)", "17@3(20@1 20@4)");
    }

    private static void whatBelongsTogether() {
        expression("a or b or c", "11@3(11@1(20@0 20@2) 20@4)");
        expression("a and b and c", "12@3(12@1(20@0 20@2) 20@4)");
        expression("a - b + c", "15@3(15@1(20@0 20@2) 20@4)");
        expression("a / b % c", "15@3(15@1(20@0 20@2) 20@4)");
        expression("a - (b - c)", "15@1(20@0 15@4(20@3 20@5))");
        expression("a or b and c", "11@1(20@0 12@3(20@2 20@4))");
        expression("a and b or c", "11@3(12@1(20@0 20@2) 20@4)");
        expression("not a and not b", "12@2(13@0(20@1) 13@3(20@4))");
        expression("not a == b", "13@0(14@2(20@1 20@3))");
        expression("not not a", "13@0(13@1(20@2))");
        expression("a < b + c", "14@1(20@0 15@3(20@2 20@4))");
        expression("a + b < c", "14@3(15@1(20@0 20@2) 20@4)");
        expression("a + b * c", "15@1(20@0 15@3(20@2 20@4))");
        expression("a * b + c", "15@3(15@1(20@0 20@2) 20@4)");
        expression("-a * b", "15@2(16@0(20@1) 20@3)");
        expression("a * - b", "15@1(20@0 16@2(20@3))");
        expression("a - -b", "15@1(20@0 16@2(20@3))");
        expression("--a", "16@0(16@1(20@2))");
        expression("-a.b", "16@0(19@3(20@1))");
        expression("-a(b)", "16@0(17@2(20@1 20@3))");
        expression("(a < b) < c", "14@5(14@2(20@1 20@3) 20@6)");
        expression("-(not a)", "16@0(13@2(20@3))");
    }

    private static void heights() {
        Check.accepted(Check.times("-", 9) + "a");
        Check.refused(Check.times("-", 10) + "a", DEEP, 0);
        Check.refused(Check.times("-", 12) + "a", DEEP, 2);
        Check.accepted(Check.times("not ", 9) + "a");
        Check.refused(Check.times("not ", 10) + "a", DEEP, 0);
        Check.accepted("a" + Check.times("()", 9));
        Check.refused("a" + Check.times("()", 10), DEEP, 19);
        Check.accepted("a" + Check.times(".b", 9));
        Check.refused("a" + Check.times(".b", 10), DEEP, 20);
        Check.accepted("a" + Check.times("[b]", 9));
        Check.refused("a" + Check.times("[b]", 10), DEEP, 28);
        Check.refused("b;a" + Check.times("()", 10), DEEP, 21);
        String[] signs = {" or ", " and ", "+", "*"};
        for (String sign : signs) {
            Check.accepted("a" + Check.times(sign + "a", 9));
            String text = "a" + Check.times(sign + "a", 10);
            int at = text.length() - 1 - sign.length() + (sign.length() > 1 ? 1 : 0);
            Check.refused(text, DEEP, at);
            Check.refused(text + " b", DEEP, at);
        }
        String nine = "a" + Check.times("+a", 8);
        String ten = nine + "+a";
        Check.accepted("f(" + nine + ", b)");
        Check.accepted("[" + nine + "]");
        Check.refused("f(" + ten + ", b)", DEEP, 1);
        Check.refused("f(b, " + ten + ")", DEEP, 1);
        Check.refused("[b, " + ten + "]", DEEP, 0);
        Check.refused("a[" + ten + "]", DEEP, 1);
        Check.refused("(" + ten + ").b", DEEP, 22);
        Check.refused("(" + ten + ")(b)", DEEP, 21);
        Check.refused("b < " + ten, DEEP, 2);
        Check.refused("b * (" + ten + ")", DEEP, 2);
        Check.refused("-(" + ten + ")", DEEP, 0);
        Check.refused("not " + ten, DEEP, 0);
        // It is looked at when it is whole, not before.
        Check.refused("f(" + ten + " b)", GRAMMAR, 22);
        Check.refused("f(" + ten + ",)", GRAMMAR, 22);
        Check.refused("(" + ten + ") + +", GRAMMAR, 24);
        Check.refused("(" + ten + ") + b c", DEEP, 22);
        // Brackets, statements and blocks are no height.
        Check.accepted("((" + ten + "))");
        Check.accepted("if " + ten + ": return " + ten);
        Check.accepted("a = " + ten);
    }

    private static void opens() {
        String twelve = Check.times("-", 12);
        Check.refused("-" + twelve + "a", DEEP, 12);
        Check.refused("-" + twelve + "=", DEEP, 12);
        Check.refused(twelve + "=", GRAMMAR, 12);
        Check.refused(twelve + "f()", DEEP, 13);
        Check.refused(twelve + "f(=)", DEEP, 13);
        Check.refused(twelve + "[]", DEEP, 12);
        Check.refused(twelve + "a[=]", DEEP, 13);
        Check.refused(twelve + "(a)", DEEP, 12);
        Check.refused(twelve + "not a", GRAMMAR, 12);
        Check.refused(Check.times("not ", 13) + "a", DEEP, 48);
        Check.refused(Check.times("not ", 12) + "-a", DEEP, 48);
        Check.refused(Check.times("not ", 12) + "a < b", DEEP, 50);
        Check.refused(Check.times("not ", 12) + "a + =", DEEP, 50);
        Check.refused(Check.times("not ", 12) + "a and", DEEP, 8);
        Check.refused("a or b and c == d + e * -f[g or h and i == j + k * -l]", DEEP, 51);
        Check.refused("a or b and not c == d + e * -f[g or h and i == j + k * l]", DEEP, 53);
        Check.refused("a and b == c + d * -f[g or h and i == j + k * -(l)]", DEEP, 47);
        Check.refused("if " + Check.times("-", 13), DEEP, 15);
    }

    private static void opensThatAreClosed() {
        Check.accepted("a and b == c + -d[(f or (((g == h + j))))]");
        Check.refused("a and b == c + -d[(f or ((((g == h + j)))))]", DEEP, 35);
        // The words and signs whose part is whole count no more, nor do commas.
        Check.accepted("((((((((a))))))))+((((((((a))))))))");
        Check.accepted("[-a, -a, -a, -a, -a, -a, -a, -a, -a, -a, -a, -a, -a, -a, -a]");
        Check.accepted("[a*b+c, a*b+c, a*b+c, a*b+c, a*b+c, a*b+c, a*b+c, a*b+c]");
        Check.accepted("a*b+c*d+e*f or a*b+c*d+e*f or a*b+c*d+e*f or a*b+c*d+e*f");
        Check.accepted("not a and not a and not a and not a and not a and not a and not a");
        Check.accepted("f(a)[b](c)[d](e)[f](g)[h](j)");
        Check.accepted("x = " + Check.times("-", 9) + "a; y = " + Check.times("-", 9) + "a");
        Check.refused("(((((((((((((a", DEEP, 8);
        Check.refused("((((((((----[", DEEP, 12);
        Check.refused("((((((((-----a))))))))", DEEP, 12);
        Check.accepted("((((((((----a))))))))");
    }

    private static void wrongQuestions() {
        Front front = Check.accepted("a;b");
        Check.same("nodes", front.nodes(), 5);
        Check.same("the last", front.node(4, 0), 20);
        int[][] wrong = {{5, 0}, {-1, 0}, {0, -1}, {0, 3}, {Integer.MAX_VALUE, 1},
            {Integer.MIN_VALUE, 1}, {1, Integer.MAX_VALUE}, {1, Integer.MIN_VALUE}, {359, 0}, {360, 0}};
        for (int[] ask : wrong) {
            boolean isThrown = false;
            try {
                front.node(ask[0], ask[1]);
            } catch (NoSuchElementException none) {
                isThrown = true;
            }
            Check.same("node(" + ask[0] + ", " + ask[1] + ") throws", isThrown, true);
        }
    }
}
