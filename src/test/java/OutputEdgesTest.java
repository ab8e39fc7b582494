/** The edges of the output, a method for each sentence that names one. */
public final class OutputEdgesTest {
    private OutputEdgesTest() {
    }

    public static void main(String[] arguments) {
        eachStatementHasALine();
        twoBlanksForEachBlock();
        elifAndElseHaveLines();
        whereBlanksStand();
        whichExpressionsStandInBrackets();
        statementsHaveNoBrackets();
        tokensAreWrittenAsTheyAre();
        itIsWrittenFromTheTree();
        Check.finish();
    }

    private static void written(String text, String due) {
        Front front = Check.accepted(text);
        Check.same(Check.show(text) + " output", Check.show(Check.output(front)), Check.show(due));
        Check.same(Check.show(text) + " length()", front.length(), due.length());
    }

    private static void eachStatementHasALine() {
        written("", "");
        written("\n\n", "");
        written("a", "a\n");
        written("a\n", "a\n");
        written("a;", "a\n");
        written("a;b;c\nd", "a\nb\nc\nd\n");
        written("pass;break;return;return a;a=b;a", "pass\nbreak\nreturn\nreturn a\na = b\na\n");
        written("if a:b;c", "if a:\n  b\n  c\n");
    }

    private static void twoBlanksForEachBlock() {
        for (int blocks = 0; blocks <= 8; blocks++) {
            StringBuilder text = new StringBuilder();
            StringBuilder due = new StringBuilder();
            for (int i = 0; i < blocks; i++) {
                text.append(" ".repeat(i)).append("if a:\n");
                due.append("  ".repeat(i)).append("if a:\n");
            }
            String last = " ".repeat(blocks);
            String lastDue = "  ".repeat(blocks);
            written(text + last + "b", due + lastDue + "b\n");
            written(text + last + "while b:c;d\ne",
                    due + lastDue + "while b:\n" + lastDue + "  c\n" + lastDue + "  d\n" + "e\n");
        }
        written("if a:\n\t\tb", "if a:\n  b\n");
        written("def f():\n while a:\n  if b:c\n  d\n e\ng",
                "def f():\n  while a:\n    if b:\n      c\n    d\n  e\ng\n");
    }

    private static void elifAndElseHaveLines() {
        written("if a:b\nelif c:d", "if a:\n  b\nelif c:\n  d\n");
        written("if a:b\nelse:d", "if a:\n  b\nelse:\n  d\n");
        written("if a:b\nelif c:d\nelif e:f\nelse:g", "if a:\n  b\nelif c:\n  d\nelif e:\n  f\nelse:\n  g\n");
        written("while z:\n if a:b\n elif c:d\n else:e\ny",
                "while z:\n  if a:\n    b\n  elif c:\n    d\n  else:\n    e\ny\n");
        // An "if" in the block of an "else" is no "elif".
        written("if a:b\nelse:\n if c:d", "if a:\n  b\nelse:\n  if c:\n    d\n");
        written("if a:b\nelse:\n if c:d\n else:e", "if a:\n  b\nelse:\n  if c:\n    d\n  else:\n    e\n");
    }

    private static void whereBlanksStand() {
        String[] between = {"or", "and", "==", "!=", "<", ">", "<=", ">=", "+", "-", "*", "/", "%", "="};
        for (String sign : between) {
            written("a  " + sign + "\tb", "a " + sign + " b\n");
            if (!Character.isLetter(sign.charAt(0))) {
                written("a" + sign + "b", "a " + sign + " b\n");
            }
        }
        written("f ( a,b , c )", "f(a, b, c)\n");
        written("f ( )", "f()\n");
        written("[ a,b , c ]", "[a, b, c]\n");
        written("[ ]", "[]\n");
        written("a [ b ]", "a[b]\n");
        written("a . b", "a.b\n");
        written("- a", "-a\n");
        written("- - a", "--a\n");
        written("not(a)", "not a\n");
        written("not   not\ta", "not not a\n");
        written("if(a):b", "if a:\n  b\n");
        written("if a:b\nelif(a):b", "if a:\n  b\nelif a:\n  b\n");
        written("while(a):b", "while a:\n  b\n");
        written("def  f ( a,b ) : c", "def f(a, b):\n  c\n");
        written("def f( ):c", "def f():\n  c\n");
        written("return", "return\n");
        written("return ;", "return\n");
        written("return(a)", "return a\n");
        written("return-a", "return -a\n");
        written("if a :b\nelse :c", "if a:\n  b\nelse:\n  c\n");
    }

    private static final String[] KINDS = {"a or b", "a and b", "not a", "a == b", "a < b", "a + b", "a - b",
        "a * b", "a / b", "a % b", "-a", "f(a)", "a[b]", "a.b", "a", "1", "'s'", "[a]", "[]"};
    private static final int[] STRENGTHS = {1, 2, 3, 4, 4, 5, 5, 6, 6, 6, 7, 8, 8, 8, 8, 8, 8, 8, 8};

    /** The places of a part, #, and how strongly what is around it binds; 0 where none is in brackets. */
    private static final String[] PLACES = {"# or z", "z or #", "# and z", "z and #", "not #", "# == z", "z == #",
        "# < z", "z < #", "# + z", "z + #", "# - z", "z - #", "# * z", "z * #", "# / z", "z / #", "# % z",
        "z % #", "-#", "#(z)", "#()", "#[z]", "#.z", "z(#)", "z(#, y)", "z(y, #)", "z[#]", "[#]", "[#, y]",
        "[y, #]", "#"};
    private static final int[] AROUND = {1, 1, 2, 2, 3, 4, 4, 4, 4, 5, 5, 5, 5, 6, 6, 6, 6, 6, 6, 7, 8, 8, 8, 8,
        0, 0, 0, 0, 0, 0, 0, 0};

    private static void whichExpressionsStandInBrackets() {
        for (int i = 0; i < PLACES.length; i++) {
            for (int j = 0; j < KINDS.length; j++) {
                String place = PLACES[i];
                int around = AROUND[i];
                int strength = STRENGTHS[j];
                boolean isFirst = place.startsWith("#") && (around <= 2 || around == 5 || around == 6);
                boolean isAhead = place.equals("not #") || place.equals("-#");
                boolean mayGo = strength == around && (isFirst || isAhead);
                boolean isIn = around >= strength && strength < 8 && !mayGo;
                String due = place.replace("#", isIn ? "(" + KINDS[j] + ")" : KINDS[j]);
                written(place.replace("#", "(" + KINDS[j] + ")"), due + "\n");
                written(place.replace("#", "((" + KINDS[j] + "))"), due + "\n");
                written("x = " + due, "x = " + due + "\n");
            }
        }
    }

    private static void statementsHaveNoBrackets() {
        for (String kind : KINDS) {
            written("(" + kind + ")", kind + "\n");
            written("x = (" + kind + ")", "x = " + kind + "\n");
            written("return (" + kind + ")", "return " + kind + "\n");
            written("if (" + kind + "): y\nelif (" + kind + "): z",
                    "if " + kind + ":\n  y\nelif " + kind + ":\n  z\n");
            written("while (" + kind + "): (" + kind + ")", "while " + kind + ":\n  " + kind + "\n");
        }
    }

    private static void tokensAreWrittenAsTheyAre() {
        written("007", "007\n");
        written("aZ_09", "aZ_09\n");
        written("'a\tb  c#'", "'a\tb  c#'\n");
        written("'\\''", "'\\''\n");
        written("\"\\\\\"", "\"\\\\\"\n");
        written("x='a'", "x = 'a'\n");
        written("(a\n+ # b\n c)", "a + c\n");
        written("a \\\n ; \\\n b", "a\nb\n");
        written("# a\nb # c\n# d", "b\n");
    }

    private static void itIsWrittenFromTheTree() {
        Front front = Check.accepted("if a:\n b\n");
        String due = Check.output(front);
        front.clear();
        Check.type(front, "xxxxxxxxxxxxxx");
        Check.same("behind another text", Check.output(front), due);
        Check.same("of that", Check.read(front), 3);
        Check.same("its output", Check.output(front), "xxxxxxxxxxxxxx\n");
        Check.type(front, " =");
        Check.read(front);
        Check.same("of one refused", front.length(), 0);
    }
}
