/** The edges of the grammar and of the tree: none, one and more of what may be, rule by rule. */
public final class GrammarEdgesTest {
    private static final int GRAMMAR = 9;

    private GrammarEdgesTest() {
    }

    public static void main(String[] arguments) {
        wholes();
        branches();
        whiles();
        definitions();
        blocks();
        lines();
        smalls();
        names();
        rows();
        signsAhead();
        compares();
        calls();
        indexes();
        members();
        lists();
        brackets();
        whereATextEndsTooEarly();
        Check.finish();
    }

    private static void refused(String text, int where) {
        Check.refused(text, GRAMMAR, where);
    }

    private static void tree(String text, String due) {
        Check.same(Check.show(text) + " tree", Check.tree(Check.accepted(text)), due);
    }

    private static void wholes() {
        tree("", "9@0");
        tree("\n\n", "9@0");
        tree("  # a", "9@0");
        tree("pass", "9@0(1@0)");
        tree("\n\npass", "9@0(1@0)");
        tree("pass\nbreak\nreturn", "9@0(1@0 2@2 3@4)");
        refused("  pass", 2);
        refused("pass\n  pass", 7);
        refused("if a:\n  pass\n    pass", 17);
    }

    private static void branches() {
        tree("if a: pass", "9@0(6@0(20@1 9@3(1@3)))");
        tree("if a: pass\nelse: pass", "9@0(6@0(20@1 9@3(1@3) 9@7(1@7)))");
        tree("if a: pass\nelif b: pass", "9@0(6@0(20@1 9@3(1@3) 6@5(20@6 9@8(1@8))))");
        tree("if a: pass\nelif b: pass\nelse: pass",
                "9@0(6@0(20@1 9@3(1@3) 6@5(20@6 9@8(1@8) 9@12(1@12))))");
        tree("if a: pass\nelif b: pass\nelif c: pass",
                "9@0(6@0(20@1 9@3(1@3) 6@5(20@6 9@8(1@8) 6@10(20@11 9@13(1@13)))))");
        tree("if a: pass\nif b: pass", "9@0(6@0(20@1 9@3(1@3)) 6@5(20@6 9@8(1@8)))");
        tree("if a: pass\nelse: pass\nif b: pass\nelse: pass",
                "9@0(6@0(20@1 9@3(1@3) 9@7(1@7)) 6@9(20@10 9@12(1@12) 9@16(1@16)))");
        refused("if a: pass\nelse: pass\nelse: pass", 22);
        refused("if a: pass\nelse: pass\nelif b: pass", 22);
        refused("if a: pass\npass\nelse: pass", 16);
        refused("if a: pass\npass\nelif b: pass", 16);
        refused("else: pass", 0);
        refused("elif a: pass", 0);
        refused("if: pass", 2);
        refused("if a pass", 5);
        refused("if a = b: pass", 5);
        refused("if a: pass\nelif: pass", 15);
        refused("if a: pass\nelse a: pass", 16);
        refused("if a: pass\nelse pass", 16);
        // As many as there is room for.
        String many = "if a: b\n" + "elif a: b\n".repeat(22);
        Check.same("22 of them", Check.output(Check.accepted(many)),
                "if a:\n  b\n" + "elif a:\n  b\n".repeat(22));
    }

    private static void whiles() {
        tree("while a: pass", "9@0(7@0(20@1 9@3(1@3)))");
        tree("while a:\n pass\n break", "9@0(7@0(20@1 9@5(1@5 2@7)))");
        refused("while: pass", 5);
        refused("while a pass", 8);
        refused("while a: pass\nelse: pass", 14);
        refused("while a: pass\nelif b: pass", 14);
    }

    private static void definitions() {
        tree("def f(): pass", "9@1(8@1(9@5(1@5)))");
        tree("def f(a): pass", "9@1(8@1(24@3 9@6(1@6)))");
        tree("def f(a, b): pass", "9@1(8@1(24@3 24@5 9@8(1@8)))");
        tree("def f(\na,\nb\n): pass", "9@1(8@1(24@3 24@5 9@8(1@8)))");
        Front many = Check.accepted("def f(" + "a,".repeat(55) + "a): a");
        Check.same("56 and a block", many.node(1, 2), 57);
        refused("def: pass", 3);
        refused("def (): pass", 4);
        refused("def 1(): pass", 4);
        refused("def f: pass", 5);
        refused("def f[]: pass", 5);
        refused("def f(,): pass", 6);
        refused("def f(a,): pass", 8);
        refused("def f(a,,b): pass", 8);
        refused("def f(a b): pass", 8);
        refused("def f(1): pass", 6);
        refused("def f('a'): pass", 6);
        refused("def f(if): pass", 6);
        refused("def f(-a): pass", 6);
        refused("def f((a)): pass", 6);
        refused("def f(a.b): pass", 7);
        refused("def f()", 7);
        refused("def f() pass", 8);
    }

    private static void blocks() {
        tree("if a: b;c;", "9@0(6@0(20@1 9@3(5@3(20@3) 5@5(20@5))))");
        tree("if a:\n b", "9@0(6@0(20@1 9@5(5@5(20@5))))");
        tree("if a:\n b\n c", "9@0(6@0(20@1 9@5(5@5(20@5) 5@7(20@7))))");
        tree("if a: #b\n  c", "9@0(6@0(20@1 9@5(5@5(20@5))))");
        tree("if a:\n\n #b\n  c\n#d\n\n  e", "9@0(6@0(20@1 9@5(5@5(20@5) 5@7(20@7))))");
        // Its token is that of the first statement, which may be inside it.
        tree("if a: b + c", "9@0(6@0(20@1 9@4(5@4(15@4(20@3 20@5)))))");
        tree("if a:\n def f(): b", "9@0(6@0(20@1 9@6(8@6(9@10(5@10(20@10))))))");
        refused("if a:", 5);
        refused("if a:\n", 6);
        refused("if a:\n\n", 7);
        refused("if a:\nb", 6);
        refused("if a:\n#b", 8);
        refused("if a:\n  b\n    c", 14);
        refused("if a: b\n  c", 10);
        refused("if a: if b: c", 6);
        refused("if a: while b: c", 6);
        refused("if a: def f(): c", 6);
        refused("if a: b; if c: d", 9);
        refused("if a: :", 6);
    }

    private static void lines() {
        tree("a", "9@0(5@0(20@0))");
        tree("a;", "9@0(5@0(20@0))");
        tree("a;b", "9@0(5@0(20@0) 5@2(20@2))");
        tree("a;b;", "9@0(5@0(20@0) 5@2(20@2))");
        refused(";", 0);
        refused("a;;", 2);
        refused("a;;b", 2);
        refused("a;\n;", 3);
        refused("a;if b: c", 2);
        refused("a;while b: c", 2);
        refused("a;def f(): c", 2);
        refused("a b", 2);
        refused("a:", 1);
        refused("a,", 1);
    }

    private static void smalls() {
        tree("return", "9@0(3@0)");
        tree("return;", "9@0(3@0)");
        tree("return a", "9@0(3@0(20@1))");
        tree("return not a", "9@0(3@0(13@1(20@2)))");
        tree("a = b", "9@0(4@0(20@2))");
        tree("a == b", "9@1(5@1(14@1(20@0 20@2)))");
        refused("pass pass", 5);
        refused("pass()", 4);
        refused("break 1", 6);
        refused("return = a", 7);
        refused("return a b", 9);
        refused("return a = b", 9);
        refused("return return", 7);
        refused("return pass", 7);
        refused("a = b = c", 6);
        refused("a =", 3);
        refused("a = ;", 4);
        refused("= a", 0);
        refused("1 = a", 2);
        refused("'a' = b", 4);
        refused("(a) = b", 4);
        refused("[a] = b", 4);
        refused("a.b = c", 4);
        refused("a[b] = c", 5);
        refused("f() = c", 4);
        refused("-a = b", 3);
        refused("not a = b", 6);
        refused("a + b = c", 6);
        refused("(a = b)", 3);
    }

    private static void names() {
        String[] words = {"if", "elif", "else", "while", "def", "return", "pass", "break", "and", "or"};
        for (String word : words) {
            refused("a = " + word, 4);
            refused("(" + word + ")", 1);
            refused("-" + word, 1);
            refused("a." + word, 2);
            refused("def " + word + "(): a", 4);
            refused("def f(a, " + word + "): a", 9);
        }
        refused("a = not", 7);
        refused("(not)", 4);
        refused("-not", 1);
        refused("a.not", 2);
        refused("def not(): a", 4);
        refused("def f(a, not): a", 9);
    }

    private static void rows() {
        String[] signs = {"or", "and", "+", "-", "*", "/", "%"};
        int[] kinds = {11, 12, 15, 15, 15, 15, 15};
        for (int i = 0; i < signs.length; i++) {
            String sign = " " + signs[i] + " ";
            int n = sign.length();
            int kind = kinds[i];
            tree("a" + sign + "b", "9@1(5@1(" + kind + "@1(20@0 20@2)))");
            tree("a" + sign + "b" + sign + "c", "9@3(5@3(" + kind + "@3(" + kind + "@1(20@0 20@2) 20@4)))");
            tree("a" + sign + "(b" + sign + "c)", "9@1(5@1(" + kind + "@1(20@0 " + kind + "@4(20@3 20@5))))");
            refused("a" + sign, n + 1);
            refused("a" + sign + "\nb", n + 1);
            refused("a" + sign + "*", n + 1);
            refused("a" + sign + "and", n + 1);
            refused("a" + sign + "b" + sign + "=", 2 * n + 2);
            if (!signs[i].equals("-")) {
                refused(signs[i] + " a", 0);
            }
        }
    }

    private static void signsAhead() {
        tree("-a", "9@0(5@0(16@0(20@1)))");
        tree("--a", "9@0(5@0(16@0(16@1(20@2))))");
        tree("not a", "9@0(5@0(13@0(20@1)))");
        tree("not not a", "9@0(5@0(13@0(13@1(20@2))))");
        tree("not -a", "9@0(5@0(13@0(16@1(20@2))))");
        tree("a - -b", "9@1(5@1(15@1(20@0 16@2(20@3))))");
        refused("-", 1);
        refused("--", 2);
        refused("not", 3);
        refused("not not", 7);
        refused("- not a", 2);
        refused("+a", 0);
        refused("a * not b", 4);
        refused("a + not b", 4);
        refused("a == not b", 5);
        refused("a not b", 2);
        refused("a - ", 4);
    }

    private static void compares() {
        String[] signs = {"==", "!=", "<", ">", "<=", ">="};
        for (String sign : signs) {
            int n = sign.length();
            tree("a" + sign + "b", "9@1(5@1(14@1(20@0 20@2)))");
            for (String other : signs) {
                refused("a" + sign + "b" + other + "c", n + 2);
                Check.accepted("(a" + sign + "b)" + other + "c");
                Check.accepted("a" + sign + "(b" + other + "c)");
                Check.accepted("a" + sign + "b and c" + other + "d");
                refused("not a" + sign + "b" + other + "c", n + 6);
                refused("[a" + sign + "b" + other + "c]", n + 3);
            }
            refused("a" + sign, n + 1);
            refused(sign + "a", 0);
        }
    }

    private static void calls() {
        tree("f()", "9@1(5@1(17@1(20@0)))");
        tree("f(a)", "9@1(5@1(17@1(20@0 20@2)))");
        tree("f(a, b)", "9@1(5@1(17@1(20@0 20@2 20@4)))");
        tree("f()()", "9@3(5@3(17@3(17@1(20@0))))");
        Check.same("57 of them", Check.accepted("f(" + "a,".repeat(56) + "a)").node(2, 2), 58);
        refused("f(,)", 2);
        refused("f(a,)", 4);
        refused("f(,a)", 2);
        refused("f(a,,b)", 4);
        refused("f(a b)", 4);
        refused("f(a=b)", 3);
        refused("f(a;b)", 3);
        refused("f(pass)", 2);
        refused("f(:)", 2);
    }

    private static void indexes() {
        tree("a[b]", "9@1(5@1(18@1(20@0 20@2)))");
        tree("a[b][c]", "9@4(5@4(18@4(18@1(20@0 20@2) 20@5)))");
        refused("a[]", 2);
        refused("a[b,c]", 3);
        refused("a[b,]", 3);
        refused("a[b c]", 4);
        refused("a[b:c]", 3);
    }

    private static void members() {
        tree("a.b", "9@2(5@2(19@2(20@0)))");
        tree("a.b.c", "9@4(5@4(19@4(19@2(20@0))))");
        tree("1 .b", "9@2(5@2(19@2(21@0)))");
        tree("'s'.b", "9@2(5@2(19@2(22@0)))");
        tree("[].b", "9@3(5@3(19@3(23@0)))");
        refused("a.", 2);
        refused("a..b", 2);
        refused("a.1", 2);
        refused("a.'b'", 2);
        refused("a.(b)", 2);
        refused("a.-b", 2);
        refused(".a", 0);
    }

    private static void lists() {
        tree("[]", "9@0(5@0(23@0))");
        tree("[a]", "9@0(5@0(23@0(20@1)))");
        tree("[a, b]", "9@0(5@0(23@0(20@1 20@3)))");
        tree("[[], []]", "9@0(5@0(23@0(23@1 23@4)))");
        Check.same("58 of them", Check.accepted("[" + "a,".repeat(57) + "a]").node(2, 2), 58);
        refused("[,]", 1);
        refused("[a,]", 3);
        refused("[,a]", 1);
        refused("[a,,b]", 3);
        refused("[a b]", 3);
        refused("[a=b]", 2);
        refused("[pass]", 1);
    }

    private static void brackets() {
        tree("(a)", "9@1(5@1(20@1))");
        tree("((a))", "9@2(5@2(20@2))");
        tree("(a)(b)", "9@3(5@3(17@3(20@1 20@4)))");
        refused("()", 1);
        refused("(())", 2);
        refused("(a,)", 2);
        refused("(a, b)", 2);
        refused("(a b)", 3);
        refused("(a;)", 2);
        refused("a (b) c", 6);
        refused("a 1", 2);
        refused("1 a", 2);
        refused("1 'a'", 2);
        refused("'a' 'b'", 4);
    }

    /** Each beginning of a right text that is none itself is refused where it ends, or its line does. */
    private static void whereATextEndsTooEarly() {
        String[][] tokens = {{"if", "a", ":", "b"}, {"while", "a", "<", "b", ":", "c"},
            {"def", "f", "(", "a", ",", "b", ")", ":", "c"}, {"a", "=", "b"}, {"a", "or", "b"},
            {"a", "and", "not", "b"}, {"a", "+", "b", "*", "c"}, {"f", "(", "a", ",", "b", ")"},
            {"[", "a", ",", "b", "]"}, {"a", "[", "b", "]", ".", "c"}, {"-", "(", "a", ")"}};
        for (String[] all : tokens) {
            StringBuilder text = new StringBuilder();
            int open = 0;
            for (String token : all) {
                text.append(token).append(' ');
                open += "([".contains(token) ? 1 : ")]".contains(token) ? -1 : 0;
                Front front = Check.typed(text.toString());
                boolean isRead = Check.read(front) >= 0;
                if (open == 0 && !isRead) {
                    Check.refused(text.toString(), GRAMMAR, text.length());
                    Check.refused(text + "\na", GRAMMAR, text.length() + (token.equals(":") ? 1 : 0));
                }
            }
            Check.accepted(text.toString());
        }
    }
}
