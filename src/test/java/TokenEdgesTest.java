/** The edges of tokens and of how many there are, a method for each sentence that names one. */
public final class TokenEdgesTest {
    private static final int TABS = 1;
    private static final int DEEP = 3;
    private static final int BRACKET = 4;
    private static final int QUOTE = 5;
    private static final int FIGURE = 6;
    private static final int CHARACTER = 7;
    private static final int ROOM = 8;
    private static final int GRAMMAR = 9;

    private static final String[] WORDS = {"if", "elif", "else", "while", "def", "return", "pass",
        "break", "and", "or", "not"};

    private TokenEdgesTest() {
    }

    public static void main(String[] arguments) {
        whatBeginsAName();
        whatGoesOnWithAName();
        whichNamesAreWords();
        numbersAreDigits();
        noLetterStandsBehindANumber();
        aStringEndsWithTheSameSign();
        aBackslashInAString();
        aStringDoesNotComeToAnEndOfLine();
        aStringDoesNotComeToTheTextsEnd();
        signsAreAsLongAsMayBe();
        everythingElseIsRefused();
        aClosingBracketFitsTheLastOne();
        atMost8BracketsAreOpen();
        aBracketOpenAtTheTextsEnd();
        aNewlineAtTheTextsEnd();
        dedentsAtTheTextsEnd();
        atMost120Tokens();
        whichTokenIsTheOneTooMany();
        theOneTooManyIsRefusedItself();
        whatIsNoTokenNeedsNoRoom();
        Check.finish();
    }

    private static void tokens(String text, String due) {
        Check.same(Check.show(text) + " tokens", Check.tokens(Check.accepted(text)), due);
    }

    private static boolean isLetter(char c) {
        return "abcdefghijklmnopqrstuvwxyzABCDEFGHIJKLMNOPQRSTUVWXYZ_".indexOf(c) >= 0;
    }

    private static boolean isDigit(char c) {
        return "0123456789".indexOf(c) >= 0;
    }

    private static void whatBeginsAName() {
        for (char c = 32; c < 127; c++) {
            if (isLetter(c)) {
                tokens("" + c, "1@0+1 6@1+0 9@1+0");
                tokens(c + "9", "1@0+2 6@2+0 9@2+0");
            } else if (isDigit(c)) {
                tokens("" + c, "3@0+1 6@1+0 9@1+0");
            } else if (c == ' ' || c == '#') {
                tokens("" + c, "9@1+0");
            } else {
                Check.same("read of " + c, Check.read(Check.typed("" + c)), -1);
            }
        }
    }

    private static void whatGoesOnWithAName() {
        for (char c = 32; c < 127; c++) {
            if (isLetter(c) || isDigit(c)) {
                tokens("x" + c, "1@0+2 6@2+0 9@2+0");
                tokens("_" + c + "x", "1@0+3 6@3+0 9@3+0");
            } else {
                Front front = Check.typed("x" + c + "\n");
                boolean isOneName = Check.read(front) == 3;
                Check.same("x" + c, isOneName && front.token(0, 2) != 1, false);
            }
        }
    }

    private static void whichNamesAreWords() {
        for (String word : WORDS) {
            int n = word.length();
            Check.refused("x." + word, GRAMMAR, 2);
            Check.refused(word + " = 1", GRAMMAR, beginsStatement(word) ? n + 1 : 0);
            String[] names = {word + "_", word + "0", "_" + word, word + word, word.substring(1),
                word.substring(0, n - 1), word.toUpperCase(), "x" + word, word + "x",
                word.substring(0, 1).toUpperCase() + word.substring(1)};
            for (String name : names) {
                tokens("x." + name, "1@0+1 5@1+1 1@2+" + name.length() + " 6@" + (name.length() + 2)
                        + "+0 9@" + (name.length() + 2) + "+0");
                tokens(name, "1@0+" + name.length() + " 6@" + name.length() + "+0 9@" + name.length() + "+0");
            }
        }
        Check.same("all words", Check.kinds(Check.accepted("if a and b or not c: pass\nelif d: break\n"
                + "else: return\nwhile e: pass\ndef f(): pass")),
                "212122" + "1526" + "21526" + "2526" + "21526" + "2155526" + "9");
    }

    private static boolean beginsStatement(String word) {
        return !word.equals("elif") && !word.equals("else") && !word.equals("and") && !word.equals("or");
    }

    private static void numbersAreDigits() {
        tokens("0", "3@0+1 6@1+0 9@1+0");
        tokens("9876543210", "3@0+10 6@10+0 9@10+0");
        tokens("00", "3@0+2 6@2+0 9@2+0");
        tokens("1+2", "3@0+1 5@1+1 3@2+1 6@3+0 9@3+0");
        tokens("a1", "1@0+2 6@2+0 9@2+0");
        Check.refused("1.2", GRAMMAR, 2);
        Check.refused("1 2", GRAMMAR, 2);
    }

    private static void noLetterStandsBehindANumber() {
        for (char c = 32; c < 127; c++) {
            String[] texts = {"7" + c, "70" + c, "x + 70" + c, "70" + c + "\n"};
            int[] places = {0, 0, 4, 0};
            for (int i = 0; i < texts.length; i++) {
                if (isLetter(c)) {
                    Check.refused(texts[i], FIGURE, places[i]);
                } else {
                    Front front = Check.typed(texts[i]);
                    Check.read(front);
                    Check.same(texts[i] + " FIGURE", front.why() == FIGURE, false);
                }
            }
        }
        Check.refused("1if", FIGURE, 0);
        Check.refused("(1\n2a)", FIGURE, 3);
        Check.refused("1 a", GRAMMAR, 2);
        Check.accepted("1\na");
        Check.accepted("1#a");
        Check.accepted("1 or a");
    }

    private static void aStringEndsWithTheSameSign() {
        tokens("''", "4@0+2 6@2+0 9@2+0");
        tokens("\"\"", "4@0+2 6@2+0 9@2+0");
        tokens("'\"'", "4@0+3 6@3+0 9@3+0");
        tokens("\"'\"", "4@0+3 6@3+0 9@3+0");
        Check.refused("'\"", QUOTE, 0);
        Check.refused("\"'", QUOTE, 0);
        Check.refused("''''", GRAMMAR, 2);
        Check.refused("'''", QUOTE, 2);
        Check.refused("'a'\"b\"", GRAMMAR, 3);
        for (char c = 32; c < 127; c++) {
            if (c != '"' && c != '\\') {
                tokens("\"" + c + "\"", "4@0+3 6@3+0 9@3+0");
            }
        }
        tokens("'\t'", "4@0+3 6@3+0 9@3+0");
    }

    private static void aBackslashInAString() {
        for (char c = 32; c < 127; c++) {
            tokens("'\\" + c + "'", "4@0+4 6@4+0 9@4+0");
            tokens("\"\\" + c + "\"", "4@0+4 6@4+0 9@4+0");
        }
        tokens("'\\\t'", "4@0+4 6@4+0 9@4+0");
        tokens("'\\\\\\''", "4@0+6 6@6+0 9@6+0");
        tokens("'\\\\'+'\\\\'", "4@0+4 5@4+1 4@5+4 6@9+0 9@9+0");
        Check.refused("'\\'", QUOTE, 0);
        Check.refused("'\\\\\\'", QUOTE, 0);
        Check.refused("'\\\\''", QUOTE, 4);
    }

    private static void aStringDoesNotComeToAnEndOfLine() {
        Check.refused("'\n'", QUOTE, 0);
        Check.refused("'a\n'", QUOTE, 0);
        Check.refused("\"a\n\"", QUOTE, 0);
        Check.refused("a = 'b\nc", QUOTE, 4);
        Check.refused("'\\\n'", QUOTE, 0);
        Check.refused("'a\\\nb'", QUOTE, 0);
        Check.refused("'\\\\\n'", QUOTE, 0);
        Check.refused("(a,\n'\n')", QUOTE, 4);
        tokens("'a'\n", "4@0+3 6@3+1 9@4+0");
    }

    private static void aStringDoesNotComeToTheTextsEnd() {
        Check.refused("'", QUOTE, 0);
        Check.refused("\"", QUOTE, 0);
        Check.refused("'a", QUOTE, 0);
        Check.refused("'\\", QUOTE, 0);
        Check.refused("'a\\", QUOTE, 0);
        Check.refused("'a\\'", QUOTE, 0);
        Check.refused("x;'a\\\\", QUOTE, 2);
        Check.refused("('", QUOTE, 1);
        tokens("'a'", "4@0+3 6@3+0 9@3+0");
        Check.refused("'" + Check.times("a", 599), QUOTE, 0);
        Check.refused("'" + Check.times("a", 598) + "\\", QUOTE, 0);
        Check.accepted("'" + Check.times("a", 598) + "'");
    }

    private static void signsAreAsLongAsMayBe() {
        String[] pairs = {"==", "!=", "<=", ">="};
        for (String pair : pairs) {
            tokens("a" + pair + "b", "1@0+1 5@1+2 1@3+1 6@4+0 9@4+0");
            Check.refused("a" + pair + "=b", GRAMMAR, 3);
            Check.refused("a" + pair, GRAMMAR, 3);
            boolean isAlone = pair.charAt(0) != '!';
            Check.refused("a" + pair.charAt(0) + " =b", isAlone ? GRAMMAR : CHARACTER, isAlone ? 3 : 1);
            Check.refused("a" + pair.charAt(0) + "\\\n=b", isAlone ? GRAMMAR : CHARACTER, isAlone ? 4 : 1);
        }
        String[] alone = {"<", ">", "+", "-", "*", "/", "%", "=", "."};
        for (String sign : alone) {
            tokens("a" + sign + "b", "1@0+1 5@1+1 1@2+1 6@3+0 9@3+0");
        }
        tokens("a<-b", "1@0+1 5@1+1 5@2+1 1@3+1 6@4+0 9@4+0");
        String[] doubled = {"<>", "><", "=<", "=>", "**", "//", "%%", "+=", "-=", "..", "++"};
        for (String two : doubled) {
            Check.refused("a" + two + "b", GRAMMAR, 2);
        }
        Check.same("all others", Check.kinds(Check.accepted("f(a,b)[c];[]\nif a:b")),
                "151515515555621516" + "9");
    }

    private static void everythingElseIsRefused() {
        String right = " #'\"()[]+-*/%,:=<>.;";
        for (char c = 32; c < 127; c++) {
            boolean isRight = isLetter(c) || isDigit(c) || right.indexOf(c) >= 0;
            String[] texts = {"a " + c, "a " + c + " b", "a " + c + c + "b"};
            for (String text : texts) {
                Front front = Check.typed(text);
                Check.read(front);
                Check.same(text + " CHARACTER", front.why() == CHARACTER, !isRight);
                Check.same(text + " where()", isRight || front.where() == 2, true);
            }
        }
        Check.refused("a !", CHARACTER, 2);
        Check.refused("a !\n", CHARACTER, 2);
        Check.refused("a !!=", CHARACTER, 2);
    }

    private static void aClosingBracketFitsTheLastOne() {
        Check.refused(")", BRACKET, 0);
        Check.refused("]", BRACKET, 0);
        Check.refused("a)", BRACKET, 1);
        Check.refused("(a))", BRACKET, 3);
        Check.refused("[a]]", BRACKET, 3);
        Check.refused("(]", BRACKET, 1);
        Check.refused("[)", BRACKET, 1);
        Check.refused("([a)", BRACKET, 3);
        Check.refused("[(a]", BRACKET, 3);
        Check.refused("([a])]", BRACKET, 5);
        Check.refused("(\n]", BRACKET, 2);
        Check.accepted("([(a)])");
        Check.accepted("[([a])]");
    }

    private static void atMost8BracketsAreOpen() {
        String[] kinds = {"(", "[", "[("};
        for (String kind : kinds) {
            for (int n = 7; n <= 9; n++) {
                String opened = kind.repeat(9).substring(0, n);
                String closed = new StringBuilder(opened).reverse().toString().replace('(', ')').replace('[', ']');
                if (n <= 8) {
                    Check.accepted(opened + "a" + closed);
                    Check.accepted(opened + "a" + closed + "\n" + opened + "a" + closed);
                } else {
                    Check.refused(opened + "a" + closed, DEEP, 8);
                    Check.refused(opened, DEEP, 8);
                    Check.refused("b;" + opened + "$", DEEP, 10);
                }
            }
        }
        // The one closed makes room for another.
        Check.accepted("[[[[[[[[a], [b]]]]]]]]");
        Check.refused("[[[[[[[[a], [[b]]]]]]]]]", DEEP, 13);
        Check.accepted(Check.times("(a);", 29));
        Check.accepted("f(f(f(f(f(f(f(f(a))))))))");
        Check.refused("f(f(f(f(f(f(f(f(f(a)))))))))", DEEP, 17);
        // Tokens are taken before open ones count in the statement.
        Check.refused("----(((((((((a", DEEP, 12);
    }

    private static void aBracketOpenAtTheTextsEnd() {
        Check.refused("(", BRACKET, 0);
        Check.refused("[", BRACKET, 0);
        Check.refused("a(", BRACKET, 1);
        Check.refused("(a[b", BRACKET, 2);
        Check.refused("(a[b]", BRACKET, 0);
        Check.refused("(a\n", BRACKET, 0);
        Check.refused("(a\n#)", BRACKET, 0);
        Check.refused("((((((((", BRACKET, 7);
        Check.refused("if a:\n  (b", BRACKET, 8);
        Check.refused("a b (", BRACKET, 4);
    }

    private static void aNewlineAtTheTextsEnd() {
        tokens("a", "1@0+1 6@1+0 9@1+0");
        tokens("a\n", "1@0+1 6@1+1 9@2+0");
        tokens("a\n ", "1@0+1 6@1+1 9@3+0");
        tokens("a ", "1@0+1 6@2+0 9@2+0");
        tokens("a;", "1@0+1 5@1+1 6@2+0 9@2+0");
        tokens("a\\\n", "1@0+1 6@3+0 9@3+0");
        tokens("(\na\n)", "5@0+1 1@2+1 5@4+1 6@5+0 9@5+0");
        tokens("", "9@0+0");
        tokens("\n", "9@1+0");
    }

    private static void dedentsAtTheTextsEnd() {
        String[] ends = {"", "\n", "\n\n", "\n  ", "\n #", " ", "#"};
        for (String end : ends) {
            for (int n = 0; n <= 8; n++) {
                StringBuilder text = new StringBuilder();
                for (int i = 0; i < n; i++) {
                    text.append(" ".repeat(i)).append("if a:\n");
                }
                text.append(" ".repeat(n)).append("b").append(end);
                String place = "@" + text.length() + "+0";
                String all = Check.tokens(Check.accepted(text.toString()));
                Check.same(n + " DEDENTs", all.endsWith((" 8" + place).repeat(n) + " 9" + place), true);
                Check.same("no more", all.endsWith((" 8" + place).repeat(n + 1) + " 9" + place), false);
            }
        }
    }

    /** Lines that have so many tokens, two at least. */
    private static String filled(int tokens) {
        return (tokens % 2 == 0 ? "" : "a;\n") + "a\n".repeat(tokens % 2 == 0 ? tokens / 2 : tokens / 2 - 1);
    }

    private static void atMost120Tokens() {
        for (int n = 100; n <= 124; n++) {
            String text = filled(n - 1);
            if (n <= 120) {
                Check.same(n + " tokens", Check.accepted(text).token(n - 1, 0), 9);
            } else {
                Check.same("more", Check.read(Check.typed(text)), -1);
            }
        }
        Check.refused(filled(120), ROOM, filled(120).length());
        Check.refused(filled(121), ROOM, filled(121).length() - 1);
        Check.refused(filled(122), ROOM, filled(120).length());
    }

    /** Behind lines that are filled up, a text whose token number k, at a place, is one too many. */
    private static void tooMany(String text, int k, int place) {
        String before = filled(120 - k);
        Check.refused(before + text, ROOM, before.length() + place);
        Check.refused(before + text.substring(0, place) + Check.times(" ", 9) + text.substring(place), ROOM,
                before.length() + place + 9);
        String less = filled(119 - k);
        Front front = Check.typed(less + text);
        Check.read(front);
        boolean isLast = front.why() == 0 || front.why() == ROOM && front.where() >= less.length() + place;
        Check.same(text + " the 120th", isLast, true);
    }

    private static void whichTokenIsTheOneTooMany() {
        tooMany("", 0, 0);
        tooMany("b", 0, 0);
        tooMany("pass", 0, 0);
        tooMany("12", 0, 0);
        tooMany("'s'", 0, 0);
        tooMany("-b", 0, 0);
        tooMany("b == c", 1, 2);
        tooMany("b", 1, 1);
        tooMany("b\n", 1, 1);
        tooMany("b", 2, 1);
        tooMany("b = c", 2, 4);
        tooMany("(b)", 2, 2);
        tooMany("if b:\n  c", 4, 8);
        tooMany("if b:\n  c\nd", 7, 10);
        tooMany("if b:\n  if c:\n   d\ne", 12, 19);
        tooMany("if b:\n  if c:\n   d\ne", 13, 19);
        tooMany("if b:\n  c", 7, 9);
        tooMany("if b:\n  c\n", 7, 10);
        tooMany("if b:\n  c", 8, 9);
        tooMany("if b:\n if c:\n  d", 13, 16);
    }

    private static void theOneTooManyIsRefusedItself() {
        String full = filled(120);
        int n = full.length();
        Check.refused(full + "$", CHARACTER, n);
        Check.refused(full + "1a", FIGURE, n);
        Check.refused(full + "'a", QUOTE, n);
        Check.refused(full + "'a\n'", QUOTE, n);
        Check.refused(full + ")", BRACKET, n);
        Check.refused(full + "!", CHARACTER, n);
        Check.refused(full + "\\", CHARACTER, n);
        // What is right there is one too many, and what is behind it is not looked at.
        Check.refused(full + "a$", ROOM, n);
        Check.refused(full + "1", ROOM, n);
        Check.refused(full + "1$", ROOM, n);
        Check.refused(full + "'a'$", ROOM, n);
        Check.refused(full + "!=", ROOM, n);
        Check.refused(full + "(]", ROOM, n);
        Check.refused(full + "(", ROOM, n);
        // Inside the room the same are refused as ever.
        Check.refused(filled(119) + "$", CHARACTER, filled(119).length());
        Check.refused(filled(119) + "a$", CHARACTER, filled(119).length() + 1);
        String open = filled(112) + "[[[[[[[[";
        Check.refused(open + "[", DEEP, open.length());
        Check.refused(open + ")", BRACKET, open.length());
        Check.refused(open + "]", ROOM, open.length());
        Check.refused(open, BRACKET, open.length() - 1);
        Check.refused(open + " \n#", BRACKET, open.length() - 1);
        wrongWidths();
    }

    private static void wrongWidths() {
        String block = filled(113) + "if a:\n  b\n";
        int n = block.length();
        Check.refused(block + "    c", ROOM, n + 4);
        Check.refused(block + "\tc", TABS, n + 1);
        Check.refused(block + "\t  c", ROOM, n + 3);
        StringBuilder deep = new StringBuilder(filled(78));
        for (int i = 0; i < 8; i++) {
            deep.append(" ".repeat(i)).append("if a:\n");
        }
        deep.append(" ".repeat(8)).append("b\n");
        Check.refused(deep + " ".repeat(9) + "c", DEEP, deep.length() + 9);
        Check.refused(deep + " ".repeat(8) + "c", ROOM, deep.length() + 8);
        String tabs = filled(113) + "if a:\n\tb\n";
        Check.refused(tabs + "        c", TABS, tabs.length() + 8);
        Check.refused(tabs + "\tc", ROOM, tabs.length() + 1);
    }

    private static void whatIsNoTokenNeedsNoRoom() {
        String[] none = {"", "\n", "   ", "\t\n", "# a;b;c\n", "#"};
        for (String text : none) {
            Check.same("120 tokens", Check.accepted(filled(119) + text).token(119, 0), 9);
            Check.refused(filled(120) + text, ROOM, filled(120).length() + text.length());
        }
        Check.same("120 tokens", Check.accepted(filled(116) + "b \\\n \\\n ;#c").token(119, 0), 9);
    }
}
