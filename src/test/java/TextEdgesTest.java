/** The edges of promises 1 to 3 and of what a text is, a method for each sentence that names one. */
public final class TextEdgesTest {
    private static final String ARGUMENT = "throws.IllegalArgumentException";
    private static final String STATE = "throws.IllegalStateException";
    private static final String NONE = "throws.NoSuchElementException";
    private static final long EIGHT = 0x6867666564636261L;

    private TextEdgesTest() {
    }

    public static void main(String[] arguments) {
        aNewObjectHasAnEmptyText();
        aNewObjectHasReadNothing();
        theLowestByteComesFirst();
        typeAnswersTheLength();
        nIsOneToEight();
        whichCodesAreCharacters();
        onlyTheLowestBytesAreLookedAt();
        aTextHasAtMost600Characters();
        aFullTextIsReadWhole();
        typeRefusesAllOrNothing();
        whatIsWrongComesAheadOfTooLong();
        typeLeavesWhatWasRead();
        clearAnswersHowLongItWas();
        clearLeavesWhatWasRead();
        clearMakesRoom();
        Check.finish();
    }

    private static void aNewObjectHasAnEmptyText() {
        Check.same("clear() of a new one", new Front().clear(), 0);
        Front front = new Front();
        Check.same("read() of a new one", front.read(), 1);
        Check.same("its state", Check.state(front), "9@0+0|9@0||0@-1");
        Check.same("the first type", new Front().type('a', 1), 1);
    }

    private static void aNewObjectHasReadNothing() {
        Front front = new Front();
        Check.same("why()", front.why(), 0);
        Check.same("where()", front.where(), -1);
        Check.same("nodes()", front.nodes(), 0);
        Check.same("length()", front.length(), 0);
        Check.same("output(0)", Check.answer(() -> front.output(0)), NONE);
        for (int i = 0; i < 3; i++) {
            int what = i;
            Check.same("token(0, " + what + ")", Check.answer(() -> front.token(0, what)), NONE);
            Check.same("node(0, " + what + ")", Check.answer(() -> front.node(0, what)), NONE);
        }
        // Neither is what was only typed, right or wrong.
        Check.same("typed a", Check.state(Check.typed("a")), "|||0@-1");
        Check.same("typed $", Check.state(Check.typed("$")), "|||0@-1");
    }

    private static void theLowestByteComesFirst() {
        String due = "abcdefgh";
        for (int n = 1; n <= 8; n++) {
            Front front = new Front();
            front.type(EIGHT, n);
            front.read();
            Check.same("the lowest " + n, Check.output(front), due.substring(0, n) + "\n");
        }
        Front front = new Front();
        front.type(EIGHT, 3);
        front.type(EIGHT, 2);
        front.read();
        Check.same("added behind", Check.output(front), "abcab\n");
    }

    private static void typeAnswersTheLength() {
        Front front = new Front();
        int due = 0;
        for (int n = 1; n <= 8; n++) {
            due += n;
            Check.same("type of " + n, front.type(EIGHT, n), due);
        }
        Check.same("the length", front.clear(), 36);
    }

    private static void nIsOneToEight() {
        int[] wrong = {0, -1, -2, -8, 9, 10, 16, 64, 256 + 1, 65536 + 1, Integer.MAX_VALUE,
            Integer.MIN_VALUE, Integer.MIN_VALUE + 1};
        for (int n : wrong) {
            Front front = Check.typed("a b");
            Check.read(front);
            String before = Check.state(front);
            Check.same("n = " + n, Check.type(front, EIGHT, n), ARGUMENT);
            Check.same("n = " + n + " no character", Check.type(front, 0, n), ARGUMENT);
            Check.same("state behind n = " + n, Check.state(front), before);
            Check.same("text behind n = " + n, front.clear(), 3);
        }
        Check.same("n = 1", Check.type(new Front(), EIGHT, 1), "1");
        Check.same("n = 2", Check.type(new Front(), EIGHT, 2), "2");
        Check.same("n = 7", Check.type(new Front(), EIGHT, 7), "7");
        Check.same("n = 8", Check.type(new Front(), EIGHT, 8), "8");
    }

    private static void whichCodesAreCharacters() {
        for (int at = 0; at < 8; at++) {
            for (int code = 0; code < 256; code++) {
                boolean isOne = code == 9 || code == 10 || (code >= 32 && code <= 126);
                long characters = EIGHT & ~(255L << (8 * at)) | (long) code << (8 * at);
                String name = "code " + code + " at " + at;
                for (int n = at + 1; n <= 8; n++) {
                    Front front = new Front();
                    Check.same(name, Check.type(front, characters, n), isOne ? "" + n : ARGUMENT);
                    Check.same(name + " length", front.clear(), isOne ? n : 0);
                }
            }
        }
        for (char code = 9; code <= 126; code++) {
            if (code == 9 || (code >= 32 && code != '\'' && code != '\\')) {
                Check.same("code " + (int) code, Check.output(Check.accepted("'" + code + "'")),
                        "'" + code + "'\n");
            }
        }
    }

    private static void onlyTheLowestBytesAreLookedAt() {
        for (int n = 1; n < 8; n++) {
            long low = EIGHT & ((1L << (8 * n)) - 1);
            Check.same("0 above " + n, Check.type(new Front(), low, n), "" + n);
            Check.same("0 at " + n, Check.type(new Front(), low, n + 1), ARGUMENT);
            Check.same("255 above " + n, Check.type(new Front(), low | -1L << (8 * n), n), "" + n);
            Check.same("255 at " + n, Check.type(new Front(), low | -1L << (8 * n), n + 1), ARGUMENT);
        }
        Check.same("the sign", Check.type(new Front(), EIGHT | Long.MIN_VALUE, 8), ARGUMENT);
        Check.same("the sign above", Check.type(new Front(), EIGHT | Long.MIN_VALUE, 7), "7");
    }

    private static void aTextHasAtMost600Characters() {
        for (int n = 1; n <= 8; n++) {
            Front inside = Check.typed(Check.times("a", 599 - n));
            Check.same("to 599 by " + n, Check.type(inside, EIGHT, n), "599");
            Front front = Check.typed(Check.times("a", 600 - n));
            Check.same("to 600 by " + n, Check.type(front, EIGHT, n), "600");
            for (int more = 1; more <= 8; more++) {
                Check.same("600 and " + more, Check.type(front, EIGHT, more), STATE);
            }
            Check.same("600 by " + n, front.clear(), 600);
            Front beyond = Check.typed(Check.times("a", 601 - n));
            Check.same("to 601 by " + n, Check.type(beyond, EIGHT, n), STATE);
            Check.same("still " + (601 - n), beyond.clear(), 601 - n);
        }
    }

    private static void aFullTextIsReadWhole() {
        Front front = Check.typed(Check.times("x", 593));
        Check.same("593 and 8", Check.type(front, EIGHT, 8), STATE);
        Check.same("593 and 7", Check.type(front, EIGHT, 7), "600");
        front.read();
        Check.same("the output", Check.output(front), Check.times("x", 593) + "abcdefg\n");
        Check.same("the tokens", Check.tokens(front), "1@0+600 6@600+0 9@600+0");
    }

    private static void typeRefusesAllOrNothing() {
        for (int at = 0; at < 8; at++) {
            Front front = Check.typed("xy");
            Check.same("wrong at " + at, Check.type(front, EIGHT | 128L << (8 * at), 8), ARGUMENT);
            Check.same("then", Check.type(front, 'z', 1), "3");
            front.read();
            Check.same("the text", Check.output(front), "xyz\n");
        }
        Front full = Check.typed(Check.times("a", 598));
        Check.same("three more", Check.type(full, EIGHT, 3), STATE);
        Check.same("two more", Check.type(full, 'y' | 'z' << 8, 2), "600");
        full.read();
        Check.same("the text", Check.output(full).substring(596), "aayz\n");
    }

    private static void whatIsWrongComesAheadOfTooLong() {
        Front front = Check.typed(Check.times("a", 600));
        Check.same("n = 0", Check.type(front, EIGHT, 0), ARGUMENT);
        Check.same("n = 9", Check.type(front, EIGHT, 9), ARGUMENT);
        Check.same("n = -600", Check.type(front, EIGHT, -600), ARGUMENT);
        Check.same("no character", Check.type(front, 0, 1), ARGUMENT);
        Check.same("the last no character", Check.type(front, EIGHT | Long.MIN_VALUE, 8), ARGUMENT);
        Check.same("a character", Check.type(front, 'a', 1), STATE);
    }

    private static void typeLeavesWhatWasRead() {
        String[] texts = {"a", "if a:\n  b = -c\n", "a b", "$", Check.times("a", 597)};
        for (String text : texts) {
            Front front = Check.typed(text);
            Check.read(front);
            String before = Check.state(front);
            Check.same("type", front.type('\n' | ')' << 8, 2), text.length() + 2);
            Check.same("behind type", Check.state(front), before);
            Check.same("wrong", Check.type(front, 1, 1), ARGUMENT);
            Check.same("behind a wrong type", Check.state(front), before);
        }
        Front full = Check.typed(Check.times("a+", 10) + Check.times("b", 580));
        Check.read(full);
        String before = Check.state(full);
        Check.same("too long", Check.type(full, 'a', 1), STATE);
        Check.same("behind a type too long", Check.state(full), before);
    }

    private static void clearAnswersHowLongItWas() {
        int[] sizes = {0, 1, 2, 8, 9, 120, 599, 600};
        for (int size : sizes) {
            Front front = Check.typed(Check.times("a", size));
            Check.same("clear() of " + size, front.clear(), size);
            Check.same("clear() again", front.clear(), 0);
            Check.same("type behind it", front.type(EIGHT, 8), 8);
            Check.same("clear() of that", front.clear(), 8);
            Check.same("read() of none", front.read(), 1);
        }
    }

    private static void clearLeavesWhatWasRead() {
        String[] texts = {"", "a", "if a:\n  b = -c\n", "a b", "$", "if a:\n b\n\tc"};
        for (String text : texts) {
            Front front = Check.typed(text);
            Check.read(front);
            String before = Check.state(front);
            front.clear();
            Check.same("behind clear()", Check.state(front), before);
            Check.type(front, Check.times("z", text.length() + 1));
            Check.same("behind another text", Check.state(front), before);
        }
    }

    private static void clearMakesRoom() {
        Front front = Check.typed(Check.times("a", 600));
        Check.same("full", Check.type(front, 'b', 1), STATE);
        front.clear();
        Check.type(front, Check.times("b", 600));
        Check.same("full again", Check.type(front, 'b', 1), STATE);
        front.read();
        Check.same("the new text", Check.output(front), Check.times("b", 600) + "\n");
    }
}
