/** Promises 1 to 3: a new object, type and clear. */
public final class TextTest {
    private TextTest() {
    }

    public static void main(String[] arguments) {
        aNewObject();
        typing();
        wrongTyping();
        theLongestText();
        clearing();
        Check.finish();
    }

    private static void aNewObject() {
        Front front = new Front();
        Check.same("new why", front.why(), 0);
        Check.same("new where", front.where(), -1);
        Check.same("new nodes", front.nodes(), 0);
        Check.same("new length", front.length(), 0);
        Check.same("new has a token", Check.hasToken(front, 0), false);
        Check.same("new clear", front.clear(), 0);
        Check.same("read of an empty text", Check.read(front), 1);
        Check.same("its all", Check.all(front), "9@0+0|9@0|");
    }

    private static void typing() {
        Front front = new Front();
        Check.same("one", Check.type(front, 'a', 1), "1");
        Check.same("two, lowest first", Check.type(front, 'b' | 'c' << 8, 2), "3");
        Check.same("bytes above n are left", Check.type(front, 0xFFFFFFFFFFFFFF00L | 'd', 1), "4");
        Check.same("eight", Check.type(front, 0x6867666564636261L, 8), "12");
        Check.read(front);
        Check.same("typed", Check.output(front), "abcdabcdefgh\n");
        Front tabs = new Front();
        Check.same("blank, tab, end of line", Check.type(tabs, 32 | 9 << 8 | 10 << 16, 3), "3");
        Check.same("126", Check.type(tabs, 126, 1), "4");
        Check.same("type is no read", tabs.nodes(), 0);
    }

    private static void wrongTyping() {
        Front front = Check.typed("abc");
        int[] wrongCounts = {0, -1, 9, Integer.MAX_VALUE, Integer.MIN_VALUE};
        for (int n : wrongCounts) {
            Check.same("n = " + n, Check.type(front, 0x6161616161616161L, n), "throws.IllegalArgumentException");
        }
        for (int c = 0; c < 256; c++) {
            boolean isOne = c == 9 || c == 10 || (c >= 32 && c <= 126);
            Front other = new Front();
            Check.same("character " + c, Check.type(other, c, 1), isOne ? "1" : "throws.IllegalArgumentException");
        }
        for (int i = 0; i < 8; i++) {
            long bad = 0x6161616161616161L & ~(255L << (8 * i)) | 200L << (8 * i);
            Check.same("wrong at " + i, Check.type(front, bad, 8), "throws.IllegalArgumentException");
        }
        Check.same("0 at the end", Check.type(front, 'a', 2), "throws.IllegalArgumentException");
        Check.same("nothing was added", front.clear(), 3);
    }

    private static void theLongestText() {
        Front front = Check.typed(Check.times("a", 596));
        Check.same("601", Check.type(front, 0x6161616161L, 5), "throws.IllegalStateException");
        Check.same("wrong and too long", Check.type(front, 0x6161611161L, 5), "throws.IllegalArgumentException");
        Check.same("wrong n and too long", Check.type(front, 0x6161616161L, 9), "throws.IllegalArgumentException");
        Check.same("600", Check.type(front, 0x61616161L, 4), "600");
        Check.same("one more", Check.type(front, 0x61, 1), "throws.IllegalStateException");
        Check.same("tokens of 600", Check.read(front), 3);
        Check.same("cleared", front.clear(), 600);
        Check.same("room again", Check.type(front, 0x61, 1), "1");
    }

    private static void clearing() {
        Front front = Check.typed("a b");
        Check.read(front);
        Check.same("how long", front.clear(), 3);
        Check.same("why stays", front.why(), 9);
        Check.same("where stays", front.where(), 2);
        Check.same("empty", front.clear(), 0);
        Check.type(front, "c");
        Check.read(front);
        Check.same("a new text", Check.output(front), "c\n");
    }
}
