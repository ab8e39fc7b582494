import java.util.NoSuchElementException;

/** Promise 7: the tokens of texts that are read. */
public final class TokenTest {
    private TokenTest() {
    }

    public static void main(String[] arguments) {
        kindsOfTokens();
        signs();
        strings();
        lines();
        widths();
        joinedLines();
        wrongQuestions();
        Check.finish();
    }

    private static void tokens(String text, String due) {
        Check.same(Check.show(text) + " tokens", Check.tokens(Check.accepted(text)), due);
    }

    private static void kinds(String text, String due) {
        Check.same(Check.show(text) + " kinds", Check.kinds(Check.accepted(text)), due);
    }

    private static void kindsOfTokens() {
        tokens("", "9@0+0");
        tokens("a", "1@0+1 6@1+0 9@1+0");
        tokens("a\n", "1@0+1 6@1+1 9@2+0");
        tokens("_aZ09_ ", "1@0+6 6@7+0 9@7+0");
        for (char c = 32; c < 127; c++) {
            boolean begins = Character.isLetter(c) || c == '_';
            if (begins || Character.isDigit(c)) {
                tokens("a" + c, "1@0+2 6@2+0 9@2+0");
                tokens("" + c, (begins ? "1" : "3") + "@0+1 6@1+0 9@1+0");
            }
        }
        tokens("007", "3@0+3 6@3+0 9@3+0");
        tokens("1.a", "3@0+1 5@1+1 1@2+1 6@3+0 9@3+0");
        tokens("if a:\n  b\n", "2@0+2 1@3+1 5@4+1 6@5+1 7@8+0 1@8+1 6@9+1 8@10+0 9@10+0");
        kinds("if a:pass\nelif b:break\nelse:return\n", "21526" + "21526" + "2526" + "9");
        kinds("while a and b or not c:d", "212122151" + "69");
        kinds("def f():d", "215551" + "69");
        kinds("If;ifs;ELSE;_if;nots;i", "15151515151" + "69");
    }

    private static void signs() {
        tokens("a==b", "1@0+1 5@1+2 1@3+1 6@4+0 9@4+0");
        tokens("a!=b", "1@0+1 5@1+2 1@3+1 6@4+0 9@4+0");
        tokens("a<=b", "1@0+1 5@1+2 1@3+1 6@4+0 9@4+0");
        tokens("a>=b", "1@0+1 5@1+2 1@3+1 6@4+0 9@4+0");
        tokens("a<-b", "1@0+1 5@1+1 5@2+1 1@3+1 6@4+0 9@4+0");
        tokens("a=b", "1@0+1 5@1+1 1@2+1 6@3+0 9@3+0");
        kinds("a+b-c*d/e%f>g", "1515151515151" + "69");
        kinds("a(b,c)[d].e;[]", "15151551551555" + "69");
    }

    private static void strings() {
        tokens("'a'", "4@0+3 6@3+0 9@3+0");
        tokens("\"a'b\"", "4@0+5 6@5+0 9@5+0");
        tokens("'a\"b'", "4@0+5 6@5+0 9@5+0");
        tokens("''", "4@0+2 6@2+0 9@2+0");
        tokens("'\\''", "4@0+4 6@4+0 9@4+0");
        tokens("'\\\\'", "4@0+4 6@4+0 9@4+0");
        tokens("'#\t$' #'", "4@0+5 6@8+0 9@8+0");
    }

    private static void lines() {
        tokens("\n \n\t\n", "9@5+0");
        tokens("# a\n   # $ '\n", "9@13+0");
        tokens("  ", "9@2+0");
        tokens("  #", "9@3+0");
        tokens("a # b\n", "1@0+1 6@5+1 9@6+0");
        tokens("a # b \\\nc", "1@0+1 6@7+1 1@8+1 6@9+0 9@9+0");
        tokens("a\n\n  \nb", "1@0+1 6@1+1 1@6+1 6@7+0 9@7+0");
        tokens("a\n  ", "1@0+1 6@1+1 9@4+0");
        tokens("a \t\n", "1@0+1 6@3+1 9@4+0");
    }

    private static void widths() {
        tokens("if a:\n b\n\n# c\n  #\n b\nd",
                "2@0+2 1@3+1 5@4+1 6@5+1 7@7+0 1@7+1 6@8+1 1@19+1 6@20+1 8@21+0 1@21+1 6@22+0 9@22+0");
        kinds("if a:\n if b:\n  c\nd", "2156721567" + "16" + "88" + "16" + "9");
        kinds("if a:\n if b:\n  c\n d", "2156721567" + "16" + "8" + "16" + "8" + "9");
        // A TAB makes 8 of 0 .. 7 and 16 of 8.
        kinds("if a:\n \tif b:\n \t c", "2156721567" + "16" + "88" + "9");
        kinds("if a:\n  if b:\n       \tc\n  d", "2156721567" + "16" + "8" + "16" + "8" + "9");
        kinds("if a:\n \tb\n \tc", "21567" + "16" + "16" + "8" + "9");
        kinds("if a:\n       \tif b:\n        \t\tc", "2156721567" + "16" + "88" + "9");
        kinds("if a:\n b\n  \n\t#\n c", "21567" + "16" + "16" + "8" + "9");
    }

    private static void joinedLines() {
        tokens("a\\\n", "1@0+1 6@3+0 9@3+0");
        tokens("a\\\n  +b\n", "1@0+1 5@5+1 1@6+1 6@7+1 9@8+0");
        tokens("a + \\\n\\\n b", "1@0+1 5@2+1 1@9+1 6@10+0 9@10+0");
        tokens("a\\\n#b\nc", "1@0+1 6@5+1 1@6+1 6@7+0 9@7+0");
        tokens("(a\n#(\n\n   )\nb", "5@0+1 1@1+1 5@10+1 6@11+1 1@12+1 6@13+0 9@13+0");
        tokens("[a,\\\nb]", "5@0+1 1@1+1 5@2+1 1@5+1 5@6+1 6@7+0 9@7+0");
        // The line begins with what is joined: its width is that of the sign.
        tokens("if a:\n \\\nb", "2@0+2 1@3+1 5@4+1 6@5+1 7@7+0 1@9+1 6@10+0 8@10+0 9@10+0");
        tokens("\\\n   a", "1@5+1 6@6+0 9@6+0");
    }

    private static void wrongQuestions() {
        Front front = Check.accepted("ab;c");
        Check.same("the last", front.token(4, 0), 9);
        int[][] wrong = {{5, 0}, {-1, 0}, {0, -1}, {0, 3}, {Integer.MAX_VALUE, 1},
            {Integer.MIN_VALUE, 1}, {1, Integer.MAX_VALUE}, {1, Integer.MIN_VALUE}, {119, 0}, {120, 0}};
        for (int[] ask : wrong) {
            boolean isThrown = false;
            try {
                front.token(ask[0], ask[1]);
            } catch (NoSuchElementException none) {
                isThrown = true;
            }
            Check.same("token(" + ask[0] + ", " + ask[1] + ") throws", isThrown, true);
        }
    }
}
