/** The edges of lines, their widths and what is empty or joined, a method for each sentence. */
public final class LineEdgesTest {
    private static final int TABS = 1;
    private static final int STEP = 2;
    private static final int DEEP = 3;
    private static final int BRACKET = 4;
    private static final int CHARACTER = 7;
    private static final int GRAMMAR = 9;

    private LineEdgesTest() {
    }

    public static void main(String[] arguments) {
        aLineBeginsAtPlace0();
        aLineBeginsBehindAnEndOfLine();
        noLineBeginsInBrackets();
        noLineBeginsBehindAJoinedEnd();
        aBlankIsOneWide();
        aTabGoesToTheNextMultipleOf8();
        narrowCountsEachBlankAsOne();
        emptyLinesArePassedOver();
        emptyLinesAreNotCompared();
        whatIsBehindANumberSignIsPassedOver();
        theListBeginsWith0();
        equalWidthsAreEquallyNarrow();
        greaterWidthsAreLessNarrow();
        lessWidthsGo();
        lessWidthsEndAtAnEqualOne();
        lessWidthsAreEquallyNarrow();
        theListHasAtMost9();
        tabsComeAheadOfDeep();
        theListIsUsedAgain();
        thesePlacesAreOfTheFirstThatIsNoBlank();
        blanksInALine();
        joinedLines();
        aBackslashOtherwise();
        Check.finish();
    }

    private static void tokens(String text, String due) {
        Check.same(Check.show(text) + " tokens", Check.tokens(Check.accepted(text)), due);
    }

    private static void kinds(String text, String due) {
        Check.same(Check.show(text) + " kinds", Check.kinds(Check.accepted(text)), due);
    }

    private static void aLineBeginsAtPlace0() {
        tokens("a", "1@0+1 6@1+0 9@1+0");
        Check.refused(" a", GRAMMAR, 1);
        Check.refused("\ta", GRAMMAR, 1);
        Check.refused("        a\n\tb", TABS, 11);
    }

    private static void aLineBeginsBehindAnEndOfLine() {
        Check.refused("a\n b", GRAMMAR, 3);
        tokens("a\nb", "1@0+1 6@1+1 1@2+1 6@3+0 9@3+0");
        tokens("\na", "1@1+1 6@2+0 9@2+0");
        Check.refused("\n a", GRAMMAR, 2);
        Check.refused("a#\n b", GRAMMAR, 4);
    }

    private static void noLineBeginsInBrackets() {
        String[] pairs = {"()", "[]"};
        for (String pair : pairs) {
            char opened = pair.charAt(0);
            char closed = pair.charAt(1);
            tokens(opened + "\n  a" + closed, "5@0+1 1@4+1 5@5+1 6@6+0 9@6+0");
            tokens(opened + "a\n\t\n \n" + closed + "\n", "5@0+1 1@1+1 5@7+1 6@8+1 9@9+0");
            tokens(opened + "#" + closed + "\na" + closed, "5@0+1 1@4+1 5@5+1 6@6+0 9@6+0");
            kinds("if a:\n  " + opened + "a\n " + closed + "\n  c",
                    "21567" + "5156" + "16" + "89");
            // Behind the closing one lines begin again.
            Check.refused(opened + "a\n" + closed + "\n b", GRAMMAR, 6);
        }
        Check.refused("(a\n b", BRACKET, 0);
        kinds("([\na])\n", "5515569");
        Check.refused("([\na]\n)\n b", GRAMMAR, 9);
    }

    private static void noLineBeginsBehindAJoinedEnd() {
        tokens("a\\\n  ", "1@0+1 6@5+0 9@5+0");
        tokens("a \\\n\t;b", "1@0+1 5@5+1 1@6+1 6@7+0 9@7+0");
        kinds("if a:\n  b;\\\n c\n  d", "21567" + "15" + "16" + "16" + "89");
        Check.refused("a\\\n\n b", GRAMMAR, 5);
        // Behind "#" it is not joined.
        Check.refused("a#\\\n b", GRAMMAR, 5);
    }

    /**
     * How wide blanks are, told by lines of 32 alone behind them: a lesser width is none of the
     * list's, an equal one is not as narrow when there is a TAB, a greater one is no block's.
     */
    private static void width(String blanks, int due) {
        String begun = "if a:\n" + blanks + "b\n";
        for (int w = 1; w <= due + 2; w++) {
            String text = begun + " ".repeat(w) + "c";
            if (w == due && blanks.length() == due) {
                Check.accepted(text);
            } else {
                int why = w < due ? STEP : w == due ? TABS : GRAMMAR;
                Check.refused(text, why, text.length() - 1);
            }
        }
    }

    private static void aBlankIsOneWide() {
        int[] widths = {1, 2, 3, 7, 8, 9, 15, 16, 17};
        for (int w : widths) {
            width(" ".repeat(w), w);
        }
    }

    private static void aTabGoesToTheNextMultipleOf8() {
        for (int w = 0; w <= 25; w++) {
            int due = w < 8 ? 8 : w < 16 ? 16 : w < 24 ? 24 : 32;
            width(" ".repeat(w) + "\t", due);
        }
        width("\t ", 9);
        width("\t\t", 16);
        width(" \t ", 9);
        width("\t \t", 16);
        width("\t       \t", 16);
        width("\t        \t", 24);
        width("\t\t\t", 24);
        width("       \t \t  ", 18);
    }

    private static void narrowCountsEachBlankAsOne() {
        // 16 and 3 in different ways.
        Check.accepted("if a:\n \t\tb\n\t \tc\n \t\td");
        Check.refused("if a:\n \t\tb\n\t\tc", TABS, 13);
        Check.refused("if a:\n \t\tb\n\t  \tc", TABS, 15);
    }

    private static void emptyLinesArePassedOver() {
        String[] empty = {"\n", " \n", "\t\n", " \t \n", "#\n", "  #a\n", "\t# '$(\\\n"};
        for (String line : empty) {
            int n = line.length();
            tokens(line, "9@" + n + "+0");
            tokens(line + line, "9@" + 2 * n + "+0");
            tokens(line + "a", "1@" + n + "+1 6@" + (n + 1) + "+0 9@" + (n + 1) + "+0");
            tokens("a\n" + line, "1@0+1 6@1+1 9@" + (n + 2) + "+0");
        }
        String[] last = {" ", "\t", "  \t", "#", "#a", "  #", "\t#'$(\\"};
        for (String line : last) {
            int n = line.length();
            tokens(line, "9@" + n + "+0");
            tokens("a\n" + line, "1@0+1 6@1+1 9@" + (n + 2) + "+0");
            Check.same("in a block", Check.kinds(Check.accepted("if a:\n  b\n" + line)), "21567" + "16" + "89");
        }
    }

    private static void emptyLinesAreNotCompared() {
        String[] empty = {"\n", " \n", "   \n", "\t\n", "#\n", " #a\n", "   #a\n", "\t#\n"};
        for (String line : empty) {
            kinds("if a:\n" + line + "  b\n" + line + "  c\n" + line, "21567" + "16" + "16" + "89");
            kinds("if a:\n  b\n" + line + "c\n" + line, "21567" + "16" + "8" + "16" + "9");
            kinds(line + "a\n" + line + "b", "16" + "16" + "9");
        }
        kinds(nested(8) + "\n" + " ".repeat(20) + "\n" + " ".repeat(20) + "#", Check.kinds(Check.accepted(nested(8))));
    }

    private static void whatIsBehindANumberSignIsPassedOver() {
        for (char c = 32; c < 127; c++) {
            tokens("#" + c, "9@2+0");
            tokens("a #" + c + "\nb", "1@0+1 6@4+1 1@5+1 6@6+0 9@6+0");
            tokens("(#" + c + "\nb)", "5@0+1 1@4+1 5@5+1 6@6+0 9@6+0");
        }
        tokens("a#", "1@0+1 6@2+0 9@2+0");
        tokens("#\ta\t\n", "9@5+0");
        tokens("'#'#'", "4@0+3 6@5+0 9@5+0");
    }

    private static void theListBeginsWith0() {
        tokens("a\nb", "1@0+1 6@1+1 1@2+1 6@3+0 9@3+0");
        Check.accepted("if a:\n b\nc\n");
        Check.accepted("if a:\n\tb\nc\n");
    }

    private static void equalWidthsAreEquallyNarrow() {
        Check.accepted("if a:\n \tb\n \tc");
        Check.refused("if a:\n \tb\n\tc", TABS, 11);
        Check.refused("if a:\n \tb\n  \tc", TABS, 13);
        Check.refused("if a:\n\tb\n        c", TABS, 17);
        Check.refused("if a:\n        b\n\tc", TABS, 17);
        Check.refused("if a:\n\tb\n       \tc", TABS, 17);
    }

    private static void greaterWidthsAreLessNarrow() {
        // Behind two blanks: one, two and three more narrow ones that are wider.
        Check.refused("if a:\n  if b:\n\tc", TABS, 15);
        Check.refused("if a:\n  if b:\n\t c", TABS, 16);
        Check.accepted("if a:\n  if b:\n\t  c");
        Check.refused("if a:\n  if b:\n \tc", TABS, 16);
        Check.accepted("if a:\n  if b:\n  \tc");
        Check.accepted("if a:\n  if b:\n   c");
        Check.refused("if a:\n  b\n\tc", TABS, 11);
        Check.refused("if a:\n  b\n\t  c", GRAMMAR, 13);
        Check.accepted("if a:\n\tif b:\n\t\tc");
        Check.refused("if a:\n        if b:\n\t\t\t\t\t\t\t\tc", TABS, 28);
        Check.accepted("if a:\n        if b:\n\t\t\t\t\t\t\t\t\tc");
    }

    private static void lessWidthsGo() {
        String begun = nested(4) + "\n";
        for (int left = 0; left <= 4; left++) {
            String text = begun + " ".repeat(left) + "c";
            int place = text.length() - 1;
            String all = Check.tokens(Check.accepted(text));
            String due = (" 8@" + place + "+0").repeat(4 - left) + " 1@" + place + "+1";
            Check.same(left + " left", all.contains("6@" + (begun.length() - 1) + "+1" + due + " "), true);
            Check.same(left + " at the end", all.endsWith("1@" + place + "+1 6@" + (place + 1) + "+0"
                    + (" 8@" + (place + 1) + "+0").repeat(left) + " 9@" + (place + 1) + "+0"), true);
        }
    }

    private static void lessWidthsEndAtAnEqualOne() {
        String begun = "if a:\n  if b:\n     c\n";
        for (int w = 0; w <= 5; w++) {
            String text = begun + " ".repeat(w) + "d";
            if (w == 0 || w == 2 || w == 5) {
                Check.accepted(text);
            } else {
                Check.refused(text, STEP, text.length() - 1);
            }
        }
        Check.refused("if a:\n  b\n d", STEP, 11);
        Check.refused("if a:\n\tb\n       c", STEP, 16);
        Check.refused("if a:\n\t\tb\n\tc", STEP, 11);
        Check.refused("  a\n b", STEP, 5);
    }

    private static void lessWidthsAreEquallyNarrow() {
        String begun = "if a:\n \tif b:\n \t c\n";
        Check.accepted(begun + " \td");
        Check.refused(begun + "\td", TABS, begun.length() + 1);
        Check.refused(begun + "  \td", TABS, begun.length() + 3);
        Check.refused(begun + "        d", TABS, begun.length() + 8);
        Check.accepted(begun + "d");
    }

    private static String nested(int blocks) {
        StringBuilder text = new StringBuilder();
        for (int i = 0; i < blocks; i++) {
            text.append(" ".repeat(i)).append("if a:\n");
        }
        return text.append(" ".repeat(blocks)).append("b").toString();
    }

    private static void theListHasAtMost9() {
        Check.same("8 on it", Check.kinds(Check.accepted(nested(7))), "21567".repeat(7) + "16" + "8".repeat(7) + "9");
        Check.same("9 on it", Check.kinds(Check.accepted(nested(8))), "21567".repeat(8) + "16" + "8".repeat(8) + "9");
        Check.refused(nested(9), DEEP, nested(9).length() - 1);
        Check.refused(nested(10), DEEP, nested(9).length() - 1);
        // What is behind it is not looked at, nor is what could not be read into a tree.
        Check.refused(nested(9) + "$", DEEP, nested(9).length() - 1);
        Check.refused(nested(8) + "\n" + " ".repeat(9) + "$", DEEP, nested(8).length() + 10);
        Check.refused(nested(8) + "\n" + " ".repeat(9) + "'", DEEP, nested(8).length() + 10);
        // A short block has no width of its own.
        Check.accepted(nested(8) + "\n" + " ".repeat(8) + "if c: d");
    }

    private static void tabsComeAheadOfDeep() {
        String full = nested(8) + "\n";
        Check.refused(full + "\t c", TABS, full.length() + 2);
        Check.refused(full + "\t       c", TABS, full.length() + 8);
        Check.refused(full + "\t        c", DEEP, full.length() + 9);
    }

    private static void theListIsUsedAgain() {
        Check.accepted(nested(8) + "\n" + nested(8));
        Check.accepted(nested(8) + "\n" + " ".repeat(7) + "if c:\n" + " ".repeat(12) + "d");
        String text = nested(8) + "\n" + nested(9);
        Check.refused(text, DEEP, text.length() - 1);
        Front front = Check.typed(nested(9));
        Check.read(front);
        front.clear();
        Check.type(front, nested(8));
        Check.same("in a new text", Check.read(front), 51);
    }

    private static void thesePlacesAreOfTheFirstThatIsNoBlank() {
        tokens("if a:\n \t b\nc", "2@0+2 1@3+1 5@4+1 6@5+1 7@9+0 1@9+1 6@10+1 8@11+0 1@11+1 6@12+0 9@12+0");
        Check.refused("if a:\n    b\n  c", STEP, 14);
        Check.refused("if a:\n    b\n\tc", TABS, 13);
        Check.refused("if a:\n    b\n      $", CHARACTER, 18);
        // "\" is no blank, also when it is joined.
        tokens("if a:\n  \\\n b", "2@0+2 1@3+1 5@4+1 6@5+1 7@8+0 1@11+1 6@12+0 8@12+0 9@12+0");
        Check.refused("if a:\n  b\n \\\nc", STEP, 11);
    }

    private static void blanksInALine() {
        tokens("a \t = \t1 \t", "1@0+1 5@4+1 3@7+1 6@10+0 9@10+0");
        tokens("a\t\t\n", "1@0+1 6@3+1 9@4+0");
    }

    private static void joinedLines() {
        tokens("\\\na", "1@2+1 6@3+0 9@3+0");
        tokens("\\\n \\\n\ta", "1@6+1 6@7+0 9@7+0");
        tokens("a\\\n+b", "1@0+1 5@3+1 1@4+1 6@5+0 9@5+0");
        // It parts names.
        Check.refused("a\\\nb", GRAMMAR, 3);
        Check.refused("1\\\na", GRAMMAR, 3);
        tokens("(a\\\n)", "5@0+1 1@1+1 5@4+1 6@5+0 9@5+0");
        tokens("a\\\n#b", "1@0+1 6@5+0 9@5+0");
        // A line that is joined alone is not empty.
        Check.refused("\\\n", GRAMMAR, 2);
        Check.refused("\\\n\n", GRAMMAR, 2);
        Check.refused("a\n\\\n", GRAMMAR, 4);
        Check.refused(" \\\n", GRAMMAR, 1);
    }

    private static void aBackslashOtherwise() {
        Check.refused("\\", CHARACTER, 0);
        Check.refused("a\\", CHARACTER, 1);
        Check.refused("a\\ \n", CHARACTER, 1);
        Check.refused("a\\\t\n", CHARACTER, 1);
        Check.refused("a\\#\n", CHARACTER, 1);
        Check.refused("a\\\\\n", CHARACTER, 1);
        Check.refused("a\\\n\\", CHARACTER, 3);
        Check.refused("(\\)", CHARACTER, 1);
        Check.refused("a\\n", CHARACTER, 1);
    }
}
