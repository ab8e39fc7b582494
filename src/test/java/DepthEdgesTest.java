/** The edges of how high an expression is and how many are open, a method for each sentence. */
public final class DepthEdgesTest {
    private static final int DEEP = 3;
    private static final int GRAMMAR = 9;

    private DepthEdgesTest() {
    }

    public static void main(String[] arguments) {
        aHeightIsAtMost10();
        aHeightIsThatOfTheHighestPart();
        heightsOfRowsOfOneKind();
        bracketsAndStatementsAreNoHeight();
        aHeightIsLookedAtWhenItIsWhole();
        atMost12AreOpen();
        onlyOpenOnesCount();
        whatOpensNone();
        statementsBeginWithNoneOpen();
        theOneTooManyComesAheadOfWhatIsBehindIt();
        theOneTooManyComesBehindWhatIsAheadOfIt();
        Check.finish();
    }

    /** An expression of a height. */
    private static String high(int height) {
        return "a" + "+a".repeat(height - 1);
    }

    /** Expressions with a part # in each way that there is, and the place of their token, ^, ahead of it. */
    private static final String[] WAYS = {"(#) ^or b", "b ^or (#)", "(#) ^and b", "b ^and (#)", "^not (#)",
        "(#) ^== b", "b ^== (#)", "(#) ^!= b", "b ^!= (#)", "(#) ^< b", "b ^< (#)", "(#) ^> b", "b ^> (#)",
        "(#) ^<= b", "b ^<= (#)", "(#) ^>= b", "b ^>= (#)", "(#) ^+ b", "b ^+ (#)", "(#) ^- b", "b ^- (#)",
        "(#) ^* b", "b ^* (#)", "(#) ^/ b", "b ^/ (#)", "(#) ^% b", "b ^% (#)", "^-(#)", "(#)^()",
        "(#)^(b)", "b^(#)", "b^(#, c)", "b^(c, #)", "b^(c, #, d)", "(#)^[b]", "b^[#]", "(#).^b", "^[#]",
        "^[#, b]", "^[b, #]", "^[b, #, c]", "'s'^(#)", "1^[#]", "[]^(#)"};

    private static void aHeightIsAtMost10() {
        for (String way : WAYS) {
            for (int height = 8; height <= 10; height++) {
                String made = way.replace("#", high(height));
                String text = made.replace("^", "");
                if (height < 10) {
                    Check.accepted(text);
                    Check.accepted("x = " + text);
                } else {
                    Check.refused(text, DEEP, made.indexOf('^'));
                    Check.refused("x = " + text, DEEP, made.indexOf('^') + 4);
                    Check.refused("if a:\n " + text + "\n b c", DEEP, made.indexOf('^') + 7);
                }
            }
        }
    }

    private static void aHeightIsThatOfTheHighestPart() {
        Check.accepted(high(9) + "<" + high(9));
        Check.accepted("f(" + high(9) + "," + high(8) + "," + high(9) + ")");
        Check.accepted("[[" + high(8) + "]," + high(9) + "]");
        Check.refused("[[" + high(9) + "]," + high(9) + "]", DEEP, 0);
        Check.refused("[" + high(9) + ",[" + high(9) + "]]", DEEP, 0);
        Check.refused(high(9) + "<" + high(10), DEEP, 17);
        Check.refused(high(10) + "<" + high(9), DEEP, 19);
    }

    private static void heightsOfRowsOfOneKind() {
        row("a", " or a", 1);
        row("a", " and a", 1);
        row("a", "+a", 0);
        row("a", "-a", 0);
        row("a", "*a", 0);
        row("a", "/a", 0);
        row("a", "%a", 0);
        row("a", ".a", 1);
        row("a", "()", 0);
        row("a", "(a)", 0);
        row("a", "[a]", 0);
        Check.accepted("-".repeat(8) + "a");
        Check.accepted("-".repeat(9) + "a");
        Check.refused("-".repeat(10) + "a", DEEP, 0);
        Check.refused("-".repeat(11) + "a", DEEP, 1);
        Check.accepted("not ".repeat(8) + "a");
        Check.accepted("not ".repeat(9) + "a");
        Check.refused("not ".repeat(10) + "a", DEEP, 0);
        Check.refused("not ".repeat(11) + "a", DEEP, 4);
        Check.accepted("-(".repeat(6) + "a" + ")".repeat(6));
        Check.accepted("[".repeat(8) + "-a" + "]".repeat(8));
        Check.refused("[".repeat(8) + "--a" + "]".repeat(8), DEEP, 0);
    }

    /** Of a row the left ones belong together, so that each one more is one higher. */
    private static void row(String first, String one, int token) {
        Check.accepted(first + one.repeat(8));
        Check.accepted(first + one.repeat(9));
        int tenth = 1 + 9 * one.length() + token;
        Check.refused(first + one.repeat(10), DEEP, tenth);
        Check.refused(first + one.repeat(11), DEEP, tenth);
    }

    private static void bracketsAndStatementsAreNoHeight() {
        Check.accepted("((((((((" + high(10) + "))))))))");
        String[] ahead = {"return ", "x = ", "", "if a: ", "if a: return ", "while a:\n  if b:\n    x = "};
        for (String statement : ahead) {
            Check.accepted(statement + high(10));
            Check.refused(statement + high(11), DEEP, statement.length() + 19);
        }
        String[] conditions = {"if ", "while ", "if a: b\nelif "};
        for (String word : conditions) {
            Check.accepted(word + high(10) + ": a");
            Check.refused(word + high(11) + ": a", DEEP, word.length() + 19);
        }
        Check.accepted(high(10) + ";" + high(10) + "\n" + high(10));
        Check.refused(high(10) + ";" + high(11), DEEP, 39);
    }

    private static void aHeightIsLookedAtWhenItIsWhole() {
        // A call, an index and a list are whole behind their closing brackets.
        String[] ways = {"f^(#", "f^(b, #", "^[#", "^[b, #", "f^[#"};
        for (String way : ways) {
            String made = way.replace("#", high(10));
            String text = made.replace("^", "");
            String closing = text.contains("f(") ? ")" : "]";
            Check.refused(text + closing, DEEP, made.indexOf('^'));
            Check.refused(text + " b" + closing, GRAMMAR, text.length() + 1);
            Check.refused(text + " = b" + closing, GRAMMAR, text.length() + 1);
            Check.refused(text + closing + " b", DEEP, made.indexOf('^'));
        }
        Check.refused("f(" + high(10) + ",)", GRAMMAR, 22);
        Check.refused("[" + high(10) + ",]", GRAMMAR, 21);
        // Others are whole with their last part: what is wrong in it comes first.
        Check.refused("(" + high(10) + ")+=", GRAMMAR, 22);
        Check.refused("(" + high(10) + ").1", GRAMMAR, 22);
        Check.refused("(" + high(10) + ")+(b c)", GRAMMAR, 25);
        Check.refused("(" + high(10) + ")+(b)c", DEEP, 21);
        Check.refused("(" + high(10) + ")+b.c.1", GRAMMAR, 26);
        Check.refused("-(" + high(10) + " b)", GRAMMAR, 22);
        Check.refused("-(" + high(10) + ").b", DEEP, 23);
        Check.refused("-(" + high(10) + ") b", DEEP, 0);
        // Of two that are too high the one that is whole first is told, not the one ahead.
        Check.refused("[" + high(11) + ", " + high(11) + "]", DEEP, 20);
        Check.refused("-".repeat(12) + "a", DEEP, 2);
        Check.refused(high(11) + "\n" + high(11), DEEP, 19);
        Check.refused("a b\n" + high(11), GRAMMAR, 2);
        Check.refused(high(11) + "\na b", DEEP, 19);
    }

    /** Twelve and less that are open, the last of them a bracket, and their closing brackets. */
    private static final String[] AHEAD = {"----((((((", "-----((((((", "------(((((("};
    private static final String CLOSING = "))))))";

    /** What opens one more, at ^, with a part # behind it. */
    private static final String[] OPENERS = {"^(#)", "^[#]", "^[b, #]", "f^(#)", "f^(b, #)", "f^[#]", "^-#",
        "^not #", "b ^or #", "b ^and #", "b ^== #", "b ^!= #", "b ^< #", "b ^> #", "b ^<= #", "b ^>= #",
        "b ^+ #", "b ^- #", "b ^* #", "b ^/ #", "b ^% #"};

    private static void atMost12AreOpen() {
        for (String opener : OPENERS) {
            for (int ahead = 10; ahead <= 12; ahead++) {
                String made = AHEAD[ahead - 10] + opener.replace("#", "c") + CLOSING;
                String text = made.replace("^", "");
                if (ahead < 12) {
                    Check.accepted(text);
                    Check.accepted("return " + text);
                } else {
                    Check.refused(text, DEEP, made.indexOf('^'));
                    Check.refused("return " + text, DEEP, made.indexOf('^') + 7);
                }
            }
        }
        // Brackets with nothing in them would be open, too, before what is behind them is looked at.
        Check.accepted(AHEAD[1] + "f()" + CLOSING);
        Check.refused(AHEAD[2] + "f()" + CLOSING, DEEP, 13);
        Check.accepted(AHEAD[1] + "[]" + CLOSING);
        Check.refused(AHEAD[2] + "[]" + CLOSING, DEEP, 12);
        Check.accepted("a or b + -c[(((d or e and (f == g + h))))]");
        Check.refused("a or b + -c[(((d or e and (f == g + h * i))))]", DEEP, 38);
    }

    private static void onlyOpenOnesCount() {
        // The part behind each of these is whole when the next begins.
        String[] rows = {"b + c + d", "b * c + d", "b or c or d", "b and c or d", "f(b)(c)", "f[b](c)",
            "f(-b, -c)", "[b, c, d]"};
        for (String row : rows) {
            boolean isTwo = row.contains("-");
            Check.accepted(AHEAD[isTwo ? 0 : 1] + row + CLOSING);
        }
        Check.accepted(AHEAD[0] + "-b + c * d" + CLOSING);
        Check.refused(AHEAD[1] + "-b + c * d" + CLOSING, DEEP, 18);
        Check.accepted(AHEAD[1] + "-b + c" + CLOSING);
        Check.accepted(AHEAD[1] + "not b and c" + CLOSING);
        Check.accepted(AHEAD[1] + "not b or c" + CLOSING);
        Check.refused(AHEAD[1] + "not b == c" + CLOSING, DEEP, 17);
        Check.refused(AHEAD[1] + "b or c and d" + CLOSING, DEEP, 18);
        Check.refused(AHEAD[1] + "b == c + d" + CLOSING, DEEP, 18);
        Check.refused(AHEAD[1] + "b + c * d" + CLOSING, DEEP, 17);
        Check.refused(AHEAD[1] + "b * -c" + CLOSING, DEEP, 15);
        Check.refused(AHEAD[1] + "-(c)" + CLOSING, DEEP, 12);
        Check.accepted(AHEAD[0] + "(b) + (c)" + CLOSING);
        Check.refused(AHEAD[1] + "(b) + (c)" + CLOSING, DEEP, 17);
        Check.accepted("-----(((((((b)))))))<-----((((((b))))))");
        Check.refused("-----(((((((b)))))))<-----(((((((b)))))))", DEEP, 32);
    }

    private static void whatOpensNone() {
        String full = AHEAD[2];
        Check.accepted(full + "b" + CLOSING);
        Check.accepted(full + "b.c.d" + CLOSING);
        Check.accepted(full + "1" + CLOSING);
        Check.accepted(full + "'s'" + CLOSING);
        Check.accepted(AHEAD[1] + "f(b, c, d.e, f)" + CLOSING);
        Check.accepted(AHEAD[1] + "[b, c, d.e, f]" + CLOSING);
        Check.accepted(full + "b" + CLOSING + ".c");
    }

    private static void statementsBeginWithNoneOpen() {
        String right = AHEAD[2] + "b" + CLOSING;
        String wrong = AHEAD[2] + "-b" + CLOSING;
        String[] heads = {"", "return ", "x = ", "b;", "b;x = ", "b\n", right + ";", right + "\nx = ",
            "if a: ", "if a:\n  x = ", "if " + right + ": ", "while " + right + ":\n  ",
            "def f(a, b): ", "if a: b\nelse: ", "if a: " + right + "\nelse: "};
        for (String head : heads) {
            Check.accepted(head + right);
            Check.refused(head + wrong, DEEP, head.length() + 12);
        }
        String[] conditions = {"if ", "while ", "if a: b\nelif ", "if " + right + ": b\nelif "};
        for (String head : conditions) {
            Check.accepted(head + right + ": b");
            Check.refused(head + wrong + ": b", DEEP, head.length() + 12);
        }
    }

    private static void theOneTooManyComesAheadOfWhatIsBehindIt() {
        for (String opener : OPENERS) {
            for (int ahead = 11; ahead <= 12; ahead++) {
                String made = AHEAD[ahead - 10] + opener.replace("#", "=") + CLOSING;
                String text = made.replace("^", "");
                if (ahead == 11) {
                    Check.refused(text, GRAMMAR, text.lastIndexOf('='));
                } else {
                    Check.refused(text, DEEP, made.indexOf('^'));
                }
            }
        }
    }

    private static void theOneTooManyComesBehindWhatIsAheadOfIt() {
        // A word or sign that cannot stand there opens none.
        Check.refused(AHEAD[2] + "=b" + CLOSING, GRAMMAR, 12);
        Check.refused(AHEAD[2] + "or b" + CLOSING, GRAMMAR, 12);
        Check.refused(AHEAD[2] + "b not c" + CLOSING, GRAMMAR, 14);
        Check.refused("------------not b", GRAMMAR, 12);
        Check.refused(AHEAD[2] + "b c -d" + CLOSING, GRAMMAR, 14);
        // Nor does a second sign that compares.
        Check.refused(AHEAD[1] + "b == c == d" + CLOSING, GRAMMAR, 18);
    }
}
