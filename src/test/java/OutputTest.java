import java.util.NoSuchElementException;

/** Promises 10 and 11: the tree written out. */
public final class OutputTest {
    private OutputTest() {
    }

    public static void main(String[] arguments) {
        statements();
        expressions();
        bracketsThatStay();
        bracketsThatGo();
        theLongestOutputs();
        wrongQuestions();
        Check.finish();
    }

    private static void written(String text, String due) {
        Front front = Check.accepted(text);
        Check.same(Check.show(text) + " output", Check.show(Check.output(front)), Check.show(due));
        Check.same(Check.show(text) + " length()", front.length(), due.length());
    }

    private static void statements() {
        written("", "");
        written("# a\n", "");
        written("pass;break ;return;", "pass\nbreak\nreturn\n");
        written("return   a", "return a\n");
        written("a=b", "a = b\n");
        written("a # b", "a\n");
        written("if a:b", "if a:\n  b\n");
        written("if a :\n\tb;c\n\td", "if a:\n  b\n  c\n  d\n");
        written("if(a):b\nelse :c", "if a:\n  b\nelse:\n  c\n");
        written("if a:b\nelif(c):d\nelif e:\n f\nelse:g",
                "if a:\n  b\nelif c:\n  d\nelif e:\n  f\nelse:\n  g\n");
        written("if a:b\nelse:\n if c:d\n else:e\nf",
                "if a:\n  b\nelse:\n  if c:\n    d\n  else:\n    e\nf\n");
        written("while(a):\n while b:break\n pass", "while a:\n  while b:\n    break\n  pass\n");
        written("def f():a", "def f():\n  a\n");
        written("def f ( a ):a", "def f(a):\n  a\n");
        written("def f(a,b , c):\n   return a", "def f(a, b, c):\n  return a\n");
        written("if a:\n if b:c\n elif d:\n  e\nf", "if a:\n  if b:\n    c\n  elif d:\n    e\nf\n");
    }

    private static void expressions() {
        written("a+b-c*d/e%f", "a + b - c * d / e % f\n");
        written("a==b;a!=b;a<b;a>b;a<=b;a>=b", "a == b\na != b\na < b\na > b\na <= b\na >= b\n");
        written("a  and\tb or not  c", "a and b or not c\n");
        written("- a;- - a;a- -b", "-a\n--a\na - -b\n");
        written("f( );f( a );f(a,b ,c)", "f()\nf(a)\nf(a, b, c)\n");
        written("[ ];[ a ];[a,b ,c]", "[]\n[a]\n[a, b, c]\n");
        written("a [ b ];a . b", "a[b]\na.b\n");
        written("a\\\n+\\\nb", "a + b\n");
        written("(a\n+\nb)", "a + b\n");
        written("'a  \\'b';\"c\t'\"", "'a  \\'b'\n\"c\t'\"\n");
        written("012", "012\n");
        written("not(a);return(a)", "not a\nreturn a\n");
        written("(a+b)*-c[0].d(1,'x\\'y',[]) - (1-2)-3",
                "(a + b) * -c[0].d(1, 'x\\'y', []) - (1 - 2) - 3\n");
    }

    private static void bracketsThatStay() {
        String[] same = {"a or (b or c)", "a and (b and c)", "a + (b + c)", "a - (b + c)",
            "a * (b * c)", "a / (b % c)", "(a or b) and c", "a and (b or c)", "not (a and b)",
            "not (a or b)", "(not a) == b", "a == (not b)", "(a == b) == c", "a == (b == c)",
            "(a < b) + c", "a + (b < c)", "(a + b) * c", "a * (b + c)", "-(a * b)", "-(a + b)",
            "-(a == b)", "-(not a)", "-(a and b)", "-(a or b)", "(-a)(b)", "(-a)[b]", "(-a).b",
            "(a + b)(c)", "(a * b)[c]", "(a == b).c", "(not a)(b)", "(a and b)[c]", "(a or b).c",
            "(not a) + b", "(not a) * b", "a * (not b)", "(a or b) == c", "a == (b and c)"};
        for (String text : same) {
            written(text, text + "\n");
        }
    }

    private static void bracketsThatGo() {
        written("(a or b) or c", "a or b or c\n");
        written("(a and b) and c", "a and b and c\n");
        written("(a + b) - c", "a + b - c\n");
        written("(a * b) / c", "a * b / c\n");
        written("(a and b) or (c and d)", "a and b or c and d\n");
        written("(not a) and (not b)", "not a and not b\n");
        written("(not a) or (b == c)", "not a or b == c\n");
        written("not (not a)", "not not a\n");
        written("not (a == b)", "not a == b\n");
        written("not (-a)", "not -a\n");
        written("(a + b) == (c - d)", "a + b == c - d\n");
        written("(a * b) + (c / d)", "a * b + c / d\n");
        written("-(-a)", "--a\n");
        written("(-a) * (-b)", "-a * -b\n");
        written("(-a) - (-b)", "-a - -b\n");
        written("-(a(b))", "-a(b)\n");
        written("(a)(b)", "a(b)\n");
        written("(a[b])(c)", "a[b](c)\n");
        written("((a).b).c", "a.b.c\n");
        written("(1)(2)", "1(2)\n");
        written("('a').b", "'a'.b\n");
        written("([a])[(b)]", "[a][b]\n");
        written("f((a or b), (c))", "f(a or b, c)\n");
        written("[(a or b), (not c)]", "[a or b, not c]\n");
        written("a[(b or c)]", "a[b or c]\n");
        written("x = (a or b)", "x = a or b\n");
        written("return (a or b)", "return a or b\n");
        written("while (a or b): (c)", "while a or b:\n  c\n");
    }

    private static void theLongestOutputs() {
        StringBuilder text = new StringBuilder();
        StringBuilder due = new StringBuilder();
        for (int i = 0; i < 8; i++) {
            text.append(" ".repeat(i)).append("if a:\n");
            due.append("  ".repeat(i)).append("if a:\n");
        }
        text.append(" ".repeat(8)).append("while a:");
        due.append("  ".repeat(8)).append("while a:\n");
        for (int i = 0; i < 33; i++) {
            text.append("b;");
            due.append("  ".repeat(9)).append("b\n");
        }
        written(text.toString(), due.toString());
        String name = Check.times("abcdefgh", 75);
        written(name, name + "\n");
        String calls = "f(" + Check.times("a,", 56) + "a)";
        written(calls, calls.replace(",", ", ") + "\n");
    }

    private static void wrongQuestions() {
        Front front = Check.accepted("ab");
        Check.same("the last", front.output(2), '\n');
        int[] wrong = {3, -1, 4, Integer.MAX_VALUE, Integer.MIN_VALUE, 3119, 3120};
        for (int place : wrong) {
            boolean isThrown = false;
            try {
                front.output(place);
            } catch (NoSuchElementException none) {
                isThrown = true;
            }
            Check.same("output(" + place + ") throws", isThrown, true);
        }
    }
}
