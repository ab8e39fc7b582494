/** Promises 4 to 6: texts that are refused while they are taken into tokens. */
public final class RefusalTest {
    private static final int TABS = 1;
    private static final int STEP = 2;
    private static final int DEEP = 3;
    private static final int BRACKET = 4;
    private static final int QUOTE = 5;
    private static final int FIGURE = 6;
    private static final int CHARACTER = 7;
    private static final int ROOM = 8;

    private RefusalTest() {
    }

    public static void main(String[] arguments) {
        tabs();
        steps();
        deepBlocks();
        brackets();
        quotes();
        figures();
        characters();
        room();
        roomAtWhatIsRefusedItself();
        theFirstRefusalCounts();
        Check.finish();
    }

    private static void tabs() {
        Check.refused("if a:\n\tb\n        c\n", TABS, 17);
        Check.refused("if a:\n \tb\n  \tc\n", TABS, 13);
        Check.refused("if a:\n  b\n\tc", TABS, 11);
        Check.refused("if a:\n b\n\tc", TABS, 10);
        Check.refused("if a:\n        b\n\t c", TABS, 18);
        Check.refused("if a:\n                b\n        \tc", TABS, 33);
        Check.refused("if a:\n        if b:\n         c\n\td", TABS, 32);
        Check.accepted("if a:\n\tb\n\tc\n");
        Check.accepted("if a:\n  if b:\n        c\n  d");
    }

    private static void steps() {
        Check.refused("if a:\n  b\n c\n", STEP, 11);
        Check.refused("if a:\n  if b:\n    c\n   d", STEP, 23);
        Check.refused("if a:\n  if b:\n    c\n d", STEP, 21);
        Check.refused("if a:\n\tb\n c", STEP, 10);
        Check.refused("if a:\n  b\n $", STEP, 11);
    }

    private static String nested(int blocks) {
        StringBuilder text = new StringBuilder();
        for (int i = 0; i < blocks; i++) {
            text.append(" ".repeat(i)).append("if a:\n");
        }
        return text.append(" ".repeat(blocks)).append("b").toString();
    }

    private static void deepBlocks() {
        Check.accepted(nested(8));
        Check.refused(nested(9), DEEP, nested(9).length() - 1);
        Check.refused(nested(9) + "\n$", DEEP, nested(9).length() - 1);
        Check.accepted(nested(7) + "\n" + nested(8));
    }

    private static void brackets() {
        Check.refused(")", BRACKET, 0);
        Check.refused("a]", BRACKET, 1);
        Check.refused("(a]", BRACKET, 2);
        Check.refused("[a)", BRACKET, 2);
        Check.refused("([a)]", BRACKET, 3);
        Check.refused("(a))", BRACKET, 3);
        Check.refused("(", BRACKET, 0);
        Check.refused("f(a)[b(", BRACKET, 6);
        Check.refused("(\n\n [a\n]", BRACKET, 0);
        Check.accepted(Check.times("(", 8) + "a" + Check.times(")", 8));
        Check.accepted(Check.times("[", 8) + Check.times("]", 8));
        Check.refused(Check.times("(", 9) + "a" + Check.times(")", 9), DEEP, 8);
        Check.refused("a;[b," + Check.times("[", 8), DEEP, 12);
        Check.accepted("(a)+(a)+(a)+(a)+(a)+(a)+(a)+(a)+(a)");
    }

    private static void quotes() {
        Check.refused("'", QUOTE, 0);
        Check.refused("a = 'b", QUOTE, 4);
        Check.refused("a = \"b'", QUOTE, 4);
        Check.refused("'a\nb'", QUOTE, 0);
        Check.refused("'a\\", QUOTE, 0);
        Check.refused("'a\\\nb'", QUOTE, 0);
        Check.refused("'a\\'", QUOTE, 0);
        Check.refused("('a'\n'", QUOTE, 5);
        Check.refused("'a''\n", QUOTE, 3);
    }

    private static void figures() {
        Check.refused("12a", FIGURE, 0);
        Check.refused("a = 34_", FIGURE, 4);
        Check.refused("0x1", FIGURE, 0);
        Check.refused("1if", FIGURE, 0);
        Check.refused("a 12Z", FIGURE, 2);
    }

    private static void characters() {
        String wrong = "!$&?@^`{|}~";
        for (int i = 0; i < wrong.length(); i++) {
            Check.refused("a " + wrong.charAt(i) + " b", CHARACTER, 2);
            Check.refused(wrong.substring(i, i + 1), CHARACTER, 0);
        }
        Check.refused("a ! = b", CHARACTER, 2);
        Check.refused("a \\ b", CHARACTER, 2);
        Check.refused("a \\ \nb", CHARACTER, 2);
        Check.refused("a \\", CHARACTER, 2);
        Check.refused("\\#\n", CHARACTER, 0);
        Check.refused("\n  $", CHARACTER, 3);
    }

    /** A text of 118 tokens, a blank behind each, in a line that is not yet at its end. */
    private static final String FULL_LINE = Check.times("a ;", 59);

    private static void room() {
        Check.same("120", Check.accepted(FULL_LINE).token(119, 0), 9);
        Check.same("120", Check.accepted(FULL_LINE + "\n\n# \n  ").token(119, 0), 9);
        Check.refused(FULL_LINE + "a", ROOM, 178);
        Check.refused(FULL_LINE + "a ", ROOM, 179);
        Check.refused(FULL_LINE + "a\n", ROOM, 179);
        Check.refused(FULL_LINE + "a ;", ROOM, 180);
        Check.refused(FULL_LINE + "a ;a\n", ROOM, 180);
        Check.refused(FULL_LINE + "\na", ROOM, 179);
        Check.refused(FULL_LINE + "a = 'b' 'c'", ROOM, 181);
        Check.refused(FULL_LINE + "a + bcd", ROOM, 181);
        Check.refused(FULL_LINE + "\n  a", ROOM, 180);
        Check.refused("if a:\n a;a\n" + Check.times("a;", 57), ROOM, 121);
        String block = "if a:\n  a;" + Check.times("a ;", 55);
        Check.same("DEDENT and END", Check.accepted(block).token(119, 0), 9);
        Check.refused(block + "a", ROOM, block.length() + 1);
        Check.refused(block + "a;\n", ROOM, block.length() + 3);
        Check.refused(block + "\nb", ROOM, block.length() + 2);
        Check.refused(block + "a\nb", ROOM, block.length() + 2);
    }

    private static void roomAtWhatIsRefusedItself() {
        String full = FULL_LINE + "a;";
        Check.refused(full + "12a", FIGURE, 179);
        Check.refused(full + "'", QUOTE, 179);
        Check.refused(full + ")", BRACKET, 179);
        Check.refused(full + "$", CHARACTER, 179);
        Check.refused(full + "!=", ROOM, 179);
        Check.refused(full + "12", ROOM, 179);
        Check.refused(full + "''$", ROOM, 179);
        Check.refused(full + "(", ROOM, 179);
        Check.refused(full + " # $\n$", ROOM, 183);
        String open = Check.times("a;", 56) + Check.times("[", 8);
        Check.refused(open + "[", DEEP, open.length());
        Check.refused(open + "]", ROOM, open.length());
        Check.refused(open + ")", BRACKET, open.length());
        Check.refused(open, BRACKET, open.length() - 1);
        String lines = Check.times("a\n", 60);
        Check.refused(lines, ROOM, 120);
        Check.refused(lines + "  a", ROOM, 122);
        // The 121st is the DEDENT, which stands there before the line's width is refused.
        String block = "if a:\n  -b" + Check.times(";b", 56) + "\n";
        Check.refused(block + " c", ROOM, block.length() + 1);
        Check.refused(block + "  $", CHARACTER, block.length() + 2);
        Check.refused(block + "\tc", TABS, block.length() + 1);
        Check.refused(block + "   c", ROOM, block.length() + 3);
    }

    private static void theFirstRefusalCounts() {
        Check.refused("a b $", CHARACTER, 4);
        Check.refused("$ 12a", CHARACTER, 0);
        Check.refused("12a $", FIGURE, 0);
        Check.refused("( $", CHARACTER, 2);
        Check.refused("= '", QUOTE, 2);
        Check.refused("  a\n b", STEP, 5);
    }
}
