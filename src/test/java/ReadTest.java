/** Promises 4 to 6: what read changes and what stays, why and where. */
public final class ReadTest {
    private ReadTest() {
    }

    public static void main(String[] arguments) {
        whatWasReadStays();
        aRefusalForgets();
        anObjectIsUsedAgain();
        whatStoodBehindTheText();
        Check.finish();
    }

    private static void whatWasReadStays() {
        Front front = Check.typed("if a: b = 'c'");
        Check.same("tokens", Check.read(front), 8);
        String before = Check.all(front);
        Check.same("written", Check.output(front), "if a:\n  b = 'c'\n");
        Check.type(front, "\n$");
        Check.same("behind type", Check.all(front), before);
        front.clear();
        Check.same("behind clear", Check.all(front), before);
        Check.type(front, "xxxxxxxxxxxxx");
        Check.same("behind another text", Check.all(front), before);
        Check.same("why", front.why(), 0);
        Check.same("where", front.where(), -1);
    }

    private static void aRefusalForgets() {
        String[] wrong = {"$", "a b", "(", "a)", "'", "1a", "  a", "if a:\n  b\n c", "--"};
        for (String text : wrong) {
            Front front = Check.typed("if a: b\n");
            Check.read(front);
            front.clear();
            Check.type(front, text);
            Check.same(text + " read()", Check.read(front), -1);
            Check.same(text + " all", Check.all(front), "||");
            Check.same(text + " why", front.why() > 0, true);
            Check.same(text + " where", front.where() >= 0, true);
            Check.same(text + " again", Check.read(front), -1);
            Check.same(text + " was not cleared", front.clear(), text.length());
            Check.same("empty read()", Check.read(front), 1);
            Check.same("why then", front.why(), 0);
            Check.same("where then", front.where(), -1);
        }
    }

    /** Characters of an earlier, longer text are no part of a later one. */
    private static void whatStoodBehindTheText() {
        String[] texts = {"1a", "a\\\n", "a==b", "ab", "'a'", "if a:\n  b", "   a", "a#b\nc"};
        for (String longer : texts) {
            for (int size = 0; size < longer.length(); size++) {
                Front front = Check.typed(longer);
                front.clear();
                Check.type(front, longer.substring(0, size));
                Front other = Check.typed(longer.substring(0, size));
                Check.same("part of " + longer, Check.read(front), Check.read(other));
                Check.same("why", front.why() + " " + front.where(), other.why() + " " + other.where());
                Check.same("all", Check.all(front), Check.all(other));
            }
        }
    }

    /** What an earlier text left in an object changes no later answer. */
    private static void anObjectIsUsedAgain() {
        String[] texts = {"if a:\n  if b:\n    ((", "x = [1, (2)]\n", "if a:\n\tb\n", "((a",
            "def f(x):\n  y\n  z;z\nw", "", "a\\\n", "while not a: b", Check.times("a;", 70), "-a"};
        Front front = new Front();
        for (int i = 0; i < 3 * texts.length; i++) {
            String text = texts[i * 7 % texts.length];
            front.clear();
            Check.type(front, text);
            Front other = Check.typed(text);
            Check.same(text + " read()", Check.read(front), Check.read(other));
            Check.same(text + " why", front.why(), other.why());
            Check.same(text + " where", front.where(), other.where());
            Check.same(text + " all", Check.all(front), Check.all(other));
        }
    }
}
