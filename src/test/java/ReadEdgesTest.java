/** The edges of promises 4 to 11, a method for each sentence that names one. */
public final class ReadEdgesTest {
    private static final String REFUSED = "throws.UnsupportedOperationException";
    private static final String NONE = "throws.NoSuchElementException";

    /** A text for each reason 1 .. 9 to refuse one, and the place that is due. */
    private static final String[] WRONG = {"if a:\n\tb\n        c", "if a:\n  b\n c", "(((((((((a",
        "(a]", "'a", "a = 12b", "a $", "a\n" + "a;".repeat(60), "a b"};
    private static final int[] PLACES = {17, 11, 8, 2, 0, 4, 2, 120, 2};

    private ReadEdgesTest() {
    }

    public static void main(String[] arguments) {
        readAnswersHowManyTokens();
        readLeavesTheText();
        aRefusedReadThrows();
        aRefusedReadLeavesNothingRead();
        aRefusedTextCanBeMended();
        whyIsThatOfTheLatestRead();
        whereIsFromTheFirstPlaceToTheTextsEnd();
        tokensAreTakenBeforeTheTree();
        whichTokensThereAre();
        whatATokenIsAskedFor();
        howLongTokensAre();
        howManyNodesThereAre();
        whichNodesThereAre();
        whatANodeIsAskedFor();
        howLongTheOutputIs();
        whichPlacesTheOutputHas();
        questionsChangeNothing();
        anObjectIsUsedFor512Calls();
        Check.finish();
    }

    private static void readAnswersHowManyTokens() {
        Check.same("an empty text", Check.typed("").read(), 1);
        Check.same("an empty line", Check.typed("\n").read(), 1);
        Check.same("a name", Check.typed("a").read(), 3);
        Check.same("a name in a line", Check.typed("a\n").read(), 3);
        Check.same("a block", Check.typed("if a:\n b").read(), 9);
        Check.same("119 tokens", Check.typed(Check.times("a\n", 59)).read(), 119);
        Check.same("120 tokens", Check.typed(Check.times("a\n", 58) + "a;").read(), 120);
    }

    private static void readLeavesTheText() {
        Front front = Check.typed("a+b");
        Check.same("read()", front.read(), 5);
        Check.same("read() again", front.read(), 5);
        Check.same("type behind it", front.type('c', 1), 4);
        Check.same("read() of more", front.read(), 5);
        Check.same("its output", Check.output(front), "a + bc\n");
        Check.same("the text", front.clear(), 4);
    }

    private static void aRefusedReadThrows() {
        for (int why = 1; why <= 9; why++) {
            Front front = Check.typed(WRONG[why - 1]);
            for (int i = 0; i < 3; i++) {
                Check.same("read() for " + why, Check.answer(front::read), REFUSED);
                Check.same("why()", front.why(), why);
                Check.same("where()", front.where(), PLACES[why - 1]);
            }
            Check.same("its text", front.clear(), WRONG[why - 1].length());
        }
    }

    private static void aRefusedReadLeavesNothingRead() {
        for (int why = 1; why <= 9; why++) {
            Front front = Check.typed("if a:\n  b = [c, d]\n");
            Check.same("read()", front.read(), 15);
            front.clear();
            Check.type(front, WRONG[why - 1]);
            Check.same("read() for " + why, Check.answer(front::read), REFUSED);
            Check.same("nodes()", front.nodes(), 0);
            Check.same("length()", front.length(), 0);
            Check.same("output(0)", Check.answer(() -> front.output(0)), NONE);
            for (int i = 0; i < 3; i++) {
                int what = i;
                Check.same("token(0, " + what + ")", Check.answer(() -> front.token(0, what)), NONE);
                Check.same("node(0, " + what + ")", Check.answer(() -> front.node(0, what)), NONE);
            }
        }
    }

    private static void aRefusedTextCanBeMended() {
        String[][] halves = {{"(a", ")", "a\n"}, {"'a", "'", "'a'\n"}, {"a +", " b", "a + b\n"},
            {"if a:", "b", "if a:\n  b\n"}, {"a \\", "\n", "a\n"}, {"a !", "=b", "a != b\n"}};
        for (String[] half : halves) {
            Front front = Check.typed(half[0]);
            Check.same(half[0] + " read()", Check.answer(front::read), REFUSED);
            Check.type(front, half[1]);
            Check.same("why() stays", front.why() > 0 && front.where() >= 0, true);
            Check.same("mended", Check.read(front) > 0, true);
            Check.same("why() then", front.why(), 0);
            Check.same("where() then", front.where(), -1);
            Check.same("output", Check.output(front), half[2]);
        }
    }

    private static void whyIsThatOfTheLatestRead() {
        Front front = new Front();
        Check.same("before any", front.why() + "@" + front.where(), "0@-1");
        for (int why = 1; why <= 9; why++) {
            front.clear();
            Check.type(front, WRONG[why - 1]);
            Check.read(front);
            Check.same("latest", front.why() + "@" + front.where(), why + "@" + PLACES[why - 1]);
            front.clear();
            Check.same("behind clear()", front.why() + "@" + front.where(), why + "@" + PLACES[why - 1]);
            if (why % 2 == 0) {
                Check.read(front);
                Check.same("of an empty text", front.why() + "@" + front.where(), "0@-1");
            }
        }
    }

    private static void whereIsFromTheFirstPlaceToTheTextsEnd() {
        Check.refused("+", 9, 0);
        Check.refused("$", 7, 0);
        Check.refused(Check.times("a", 599) + "+", 9, 600);
        Check.refused(Check.times("a", 599) + "$", 7, 599);
        Check.refused(Check.times("a", 599) + "\\", 7, 599);
        Check.refused(Check.times(" ", 599) + "'", 5, 599);
        Check.refused(Check.times("\n", 599) + "(", 4, 599);
        Check.refused(Check.times("a", 597) + " 1_", 6, 598);
    }

    private static void tokensAreTakenBeforeTheTree() {
        tokensAreTakenBefore("a b\n", 3);
        tokensAreTakenBefore("else\n", 2);
        tokensAreTakenBefore("a = = b\n", 5);
        tokensAreTakenBefore("  a\n", 4);
        tokensAreTakenBefore("-------------a\n", 15);
        tokensAreTakenBefore("a.b.c.d.e.f.g.h.i.j.k\n", 22);
    }

    /** A line of so many tokens that cannot be read into a tree, and behind it what is no token. */
    private static void tokensAreTakenBefore(String line, int tokens) {
        int behind = line.length();
        Check.refused(line + "$", 7, behind);
        Check.refused(line + "1a", 6, behind);
        Check.refused(line + "'", 5, behind);
        Check.refused(line + "(", 4, behind);
        Check.refused(line + ")", 4, behind);
        Check.refused(line + "[[[[[[[[[", 3, behind + 8);
        Check.refused(line + "if a:\n  b\n c", 2, behind + 11);
        Check.refused(line + "if a:\n b\n\tc", 1, behind + 10);
        Check.refused(line + Check.times("a;", 60), 8, behind + 120 - tokens);
    }

    private static final int[] FAR = {-2, -120, -256, 256, 1 << 16, 1 << 30, Integer.MAX_VALUE,
        Integer.MIN_VALUE, Integer.MIN_VALUE + 1};

    private static void whichTokensThereAre() {
        String[] texts = {"", "a", "if a:\n  b\n", Check.times("a\n", 59), Check.times("a\n", 58) + "a;"};
        for (String text : texts) {
            Front front = Check.typed(text);
            int size = front.read();
            for (int i = 0; i < 3; i++) {
                int what = i;
                Check.same("token -1", Check.answer(() -> front.token(-1, what)), NONE);
                Check.same("first", Check.answer(() -> front.token(0, what)).equals(NONE), false);
                Check.same("last", Check.answer(() -> front.token(size - 1, what)).equals(NONE), false);
                Check.same("behind", Check.answer(() -> front.token(size, what)), NONE);
                Check.same("far behind", Check.answer(() -> front.token(size + 1, what)), NONE);
                for (int far : FAR) {
                    Check.same("token " + far, Check.answer(() -> front.token(far, what)), NONE);
                }
            }
            Check.same("the last is END", front.token(size - 1, 0), 9);
        }
    }

    private static void whatATokenIsAskedFor() {
        Front front = Check.accepted("ab = 1");
        Check.same("what = 0", front.token(1, 0), 5);
        Check.same("what = 1", front.token(1, 1), 3);
        Check.same("what = 2", front.token(1, 2), 1);
        Check.same("what = -1", Check.answer(() -> front.token(1, -1)), NONE);
        Check.same("what = 3", Check.answer(() -> front.token(1, 3)), NONE);
        Check.same("both wrong", Check.answer(() -> front.token(5, 3)), NONE);
        for (int far : FAR) {
            Check.same("what = " + far, Check.answer(() -> front.token(1, far)), NONE);
        }
    }

    private static void howLongTokensAre() {
        String due = "2@0+2 1@3+1 5@4+1 6@5+1 7@8+0 1@8+2 5@11+2 3@14+3 6@17+1 8@18+0 4@18+4 6@22+0 9@22+0";
        Check.same("lengths", Check.tokens(Check.accepted("if a:\n  bc == 100\n'ab'")), due);
        Check.same("at a line's end", Check.accepted("a\n").token(1, 2), 1);
        Check.same("at the text's end", Check.accepted("a").token(1, 2), 0);
        Check.same("behind a blank", Check.tokens(Check.accepted("a ")), "1@0+1 6@2+0 9@2+0");
        Check.same("behind #", Check.tokens(Check.accepted("a#b")), "1@0+1 6@3+0 9@3+0");
        Check.same("joined", Check.tokens(Check.accepted("a\\\n")), "1@0+1 6@3+0 9@3+0");
        Check.same("the longest", Check.accepted(Check.times("a", 600)).token(0, 2), 600);
        Check.same("the longest", Check.accepted(Check.times("1", 600)).token(0, 2), 600);
        Check.same("the longest", Check.accepted("'" + Check.times("1", 598) + "'").token(0, 2), 600);
    }

    private static void howManyNodesThereAre() {
        Check.same("of none", new Front().nodes(), 0);
        Check.same("of an empty text", Check.accepted("").nodes(), 1);
        Check.same("of one", Check.accepted("pass").nodes(), 2);
        Check.same("of a value", Check.accepted("a").nodes(), 3);
        Check.same("of brackets", Check.accepted("(((a)))").nodes(), 3);
        // The most that 120 tokens can have: a whole, 59 values and as many names.
        Check.same("of 59 names", Check.accepted(Check.times("a\n", 58) + "a;").nodes(), 119);
        Check.same("of members", Check.accepted("a.b.c;" + Check.times("a;", 56)).nodes(), 117);
    }

    private static void whichNodesThereAre() {
        String[] texts = {"", "pass", "if a:\n  b\n", "def f(a, b): return [a, -b]",
            Check.times("a\n", 58) + "a;"};
        for (String text : texts) {
            Front front = Check.accepted(text);
            int size = front.nodes();
            for (int i = 0; i < 3; i++) {
                int what = i;
                Check.same("node -1", Check.answer(() -> front.node(-1, what)), NONE);
                Check.same("first", Check.answer(() -> front.node(0, what)).equals(NONE), false);
                Check.same("last", Check.answer(() -> front.node(size - 1, what)).equals(NONE), false);
                Check.same("behind", Check.answer(() -> front.node(size, what)), NONE);
                Check.same("far behind", Check.answer(() -> front.node(size + 1, what)), NONE);
                for (int far : FAR) {
                    Check.same("node " + far, Check.answer(() -> front.node(far, what)), NONE);
                }
            }
            Check.same("the first is the whole", front.node(0, 0), 9);
        }
    }

    private static void whatANodeIsAskedFor() {
        Front front = Check.accepted("a;f(b, c)");
        Check.same("what = 0", front.node(4, 0), 17);
        Check.same("what = 1", front.node(4, 1), 3);
        Check.same("what = 2", front.node(4, 2), 3);
        Check.same("what = -1", Check.answer(() -> front.node(4, -1)), NONE);
        Check.same("what = 3", Check.answer(() -> front.node(4, 3)), NONE);
        Check.same("both wrong", Check.answer(() -> front.node(8, 3)), NONE);
        for (int far : FAR) {
            Check.same("what = " + far, Check.answer(() -> front.node(4, far)), NONE);
        }
    }

    private static void howLongTheOutputIs() {
        Check.same("of none", new Front().length(), 0);
        Check.same("of an empty text", Check.accepted("").length(), 0);
        Check.same("of a comment", Check.accepted("# a").length(), 0);
        Check.same("of a name", Check.accepted("a").length(), 2);
        Check.same("of a full text", Check.accepted(Check.times("a", 600)).length(), 601);
        Check.same("of a block", Check.accepted("if a:b").length(), 10);
    }

    private static void whichPlacesTheOutputHas() {
        Front none = Check.accepted("");
        Check.same("output(0) of none", Check.answer(() -> none.output(0)), NONE);
        String[] texts = {"a", "if a:b", Check.times("a", 600)};
        for (String text : texts) {
            Front front = Check.accepted(text);
            int size = front.length();
            Check.same("output(-1)", Check.answer(() -> front.output(-1)), NONE);
            Check.same("output(0)", front.output(0), text.charAt(0));
            Check.same("the last", front.output(size - 1), '\n');
            Check.same("behind", Check.answer(() -> front.output(size)), NONE);
            Check.same("far behind", Check.answer(() -> front.output(size + 1)), NONE);
            for (int far : FAR) {
                String due = far > 0 && far < size ? "a" : NONE;
                Check.same("output(" + far + ")", Check.answer(() -> front.output(far)), due);
            }
        }
    }

    private static void questionsChangeNothing() {
        String[] texts = {"if a:\n  b = -c\n", "a b", ""};
        for (String text : texts) {
            Front front = Check.typed(text);
            Check.read(front);
            String before = Check.state(front);
            for (int far : FAR) {
                Check.answer(() -> front.token(far, 0));
                Check.answer(() -> front.node(0, far));
                Check.answer(() -> front.output(far));
            }
            Check.same("behind questions", Check.state(front), before);
            Check.same("the text", front.clear(), text.length());
        }
    }

    private static void anObjectIsUsedFor512Calls() {
        BlockFront right = new BlockFront();
        right.type('a', 1);
        for (int call = 2; call <= 511; call++) {
            Check.same("call " + call, right.read(), 3);
        }
        Check.same("the 512th call", right.output(0), 'a');
        BlockFront wrong = new BlockFront();
        wrong.type('$', 1);
        for (int call = 2; call <= 511; call++) {
            Check.same("call " + call, Check.answer(wrong::read), REFUSED);
        }
        Check.same("the 512th call", wrong.why(), 7);
        BlockFront typed = new BlockFront();
        for (int call = 1; call <= 510; call++) {
            Check.same("call " + call, typed.type('a', 1), call);
        }
        Check.same("call 511", typed.read(), 3);
        Check.same("the 512th call", typed.token(0, 2), 510);
        BlockFront cleared = new BlockFront();
        for (int call = 1; call <= 511; call += 2) {
            Check.same("call " + call, cleared.type('b' | 'c' << 8, 2), 2);
            Check.same("call " + (call + 1), cleared.clear(), 2);
        }
    }
}
