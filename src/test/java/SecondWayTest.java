import java.util.Random;

/**
 * Promises 4 to 11 over many made texts, most of them right but for a few characters: all answers are
 * compared with those of the document's rules done a second way.
 */
public final class SecondWayTest {
    private static final String[] NAMES = {"a", "b", "x1", "_", "iff", "A"};
    private static final String[] INFIX = {" or ", " and ", "==", "!=", "<", ">", "<=", ">=", "+", "-", "*", "/", "%"};
    private static final String PIECES = "a1_ \t\n\n  ()[]:;,.=+-*<!'\"\\#$";
    private static final String[] BLANKS = {" ", "  ", "    ", "\t", " \t", "        "};

    private final Random random;
    private final StringBuilder text = new StringBuilder();

    private SecondWayTest(long seed) {
        random = new Random(seed);
    }

    public static void main(String[] arguments) {
        int[] seen = new int[10];
        for (int seed = 0; seed < 60000; seed++) {
            String text = new SecondWayTest(seed).madeText(seed % 5);
            Front front = Check.typed(text);
            Check.read(front);
            seen[front.why()]++;
            Check.same(Check.show(text), Check.show(Check.state(front)), Check.show(SecondWay.state(text)));
        }
        for (int why = 0; why < seen.length; why++) {
            Check.same("enough of " + why + ": " + seen[why], seen[why] > 200, true);
        }
        Check.finish();
    }

    private boolean chance(int of) {
        return random.nextInt(of) == 0;
    }

    private String oneOf(String[] all) {
        return all[random.nextInt(all.length)];
    }

    private String madeText(int way) {
        if (way == 0) {
            text.append(chance(2) ? "" : "x = ");
            deepExpression(6 + random.nextInt(12));
        } else if (way == 1) {
            int statements = 15 + random.nextInt(40);
            for (int i = 0; i < statements; i++) {
                text.append(oneOf(NAMES)).append(chance(3) ? "\n" : ";");
            }
            block("", 1 + random.nextInt(3), 0);
        } else {
            block("", 1 + random.nextInt(5), 0);
        }
        int changes = way == 4 ? 0 : random.nextInt(3);
        for (int i = 0; i < changes && text.length() > 0; i++) {
            change();
        }
        text.setLength(Math.min(text.length(), 600));
        return text.toString();
    }

    private void change() {
        int at = random.nextInt(text.length());
        switch (random.nextInt(4)) {
            case 0 -> text.deleteCharAt(at);
            case 1 -> text.insert(at, PIECES.charAt(random.nextInt(PIECES.length())));
            case 2 -> text.setCharAt(at, PIECES.charAt(random.nextInt(PIECES.length())));
            default -> text.insert(at, text.substring(at, Math.min(text.length(), at + 1 + random.nextInt(9))));
        }
    }

    private void block(String ahead, int statements, int depth) {
        for (int i = 0; i < statements; i++) {
            text.append(chance(9) ? " \t#$\n" : "").append(chance(9) ? "\n" : "");
            text.append(ahead);
            int way = random.nextInt(depth < 9 ? 7 : 4);
            if (way < 4) {
                line();
            } else {
                great(ahead, way, depth);
            }
        }
    }

    private void line() {
        int smalls = 1 + (chance(4) ? random.nextInt(3) : 0);
        for (int i = 0; i < smalls; i++) {
            text.append(i == 0 ? "" : ";");
            text.append(oneOf(new String[] {"pass", "break", "return", "return ", "x = ", "y=", "", "", ""}));
            char last = text.length() == 0 ? '\n' : text.charAt(text.length() - 1);
            if (!Character.isLetter(last)) {
                expression(random.nextInt(4));
            }
        }
        text.append(chance(6) ? ";" : "").append(chance(8) ? " # '" : "").append('\n');
    }

    private void great(String ahead, int way, int depth) {
        if (way == 4) {
            text.append("while ");
            expression(2);
            body(ahead, depth);
        } else if (way == 5) {
            text.append("def f(").append(oneOf(new String[] {"", "a", "a,b", "a, b ,c"})).append(")");
            body(ahead, depth);
        } else {
            text.append("if ");
            expression(2);
            body(ahead, depth);
            while (chance(3)) {
                text.append(ahead).append("elif ");
                expression(2);
                body(ahead, depth);
            }
            if (chance(3)) {
                text.append(ahead).append("else");
                body(ahead, depth);
            }
        }
    }

    private void body(String ahead, int depth) {
        text.append(chance(5) ? " :" : ":");
        if (chance(4)) {
            line();
            return;
        }
        text.append(chance(9) ? " # a\n" : "\n");
        block(ahead + oneOf(BLANKS), 1 + random.nextInt(2), depth + 1);
    }

    private String blank() {
        return chance(9) ? " " : chance(30) ? "\\\n" : chance(40) ? "\t" : "";
    }

    private void expression(int depth) {
        int way = depth <= 0 ? random.nextInt(4) : random.nextInt(12);
        text.append(blank());
        switch (way) {
            case 0, 1 -> text.append(oneOf(NAMES));
            case 2 -> text.append(oneOf(new String[] {"0", "12", "345"}));
            case 3 -> text.append(oneOf(new String[] {"'s'", "\"t\\\"\"", "''", "[]"}));
            case 4 -> enclosed("(", depth, ")");
            case 5 -> enclosed("[", depth, "]");
            case 6 -> {
                text.append(chance(2) ? "-" : "not ");
                expression(depth - 1);
            }
            case 7 -> {
                text.append(oneOf(NAMES));
                enclosed(chance(2) ? "(" : "[", depth, "");
                int last = Math.max(text.lastIndexOf("("), text.lastIndexOf("["));
                text.append(closing(last));
            }
            case 8 -> {
                expression(depth - 1);
                text.append(chance(2) ? ".m" : "()");
            }
            default -> {
                expression(depth - 1);
                text.append(blank()).append(oneOf(INFIX));
                expression(depth - 1);
            }
        }
        text.append(blank());
    }

    /** What closes the innermost bracket that is open in the text. */
    private String closing(int from) {
        int closed = 0;
        for (int at = text.length() - 1; at >= 0 && from >= 0; at--) {
            char c = text.charAt(at);
            if (c == ')' || c == ']') {
                closed++;
            } else if ((c == '(' || c == '[') && closed-- == 0) {
                return c == '(' ? ")" : "]";
            }
        }
        return ")";
    }

    private void enclosed(String opening, int depth, String closing) {
        text.append(opening);
        expression(depth - 1);
        while (chance(4)) {
            text.append(",");
            expression(depth - 1);
        }
        text.append(closing);
    }

    /** Many that are open, each around or before the next; then they are closed again. */
    private void deepExpression(int steps) {
        StringBuilder behind = new StringBuilder();
        for (int i = 0; i < steps; i++) {
            switch (random.nextInt(9)) {
                case 0 -> text.append("-");
                case 1 -> text.append(text.toString().endsWith("-") ? "-" : "not ");
                case 2, 3 -> {
                    text.append("(");
                    behind.insert(0, ")");
                }
                case 4 -> {
                    text.append("[a,");
                    behind.insert(0, "]");
                }
                case 5 -> {
                    text.append("f(");
                    behind.insert(0, chance(3) ? ").m" : ")");
                }
                case 6 -> {
                    text.append("a[");
                    behind.insert(0, "]");
                }
                default -> text.append("b").append(oneOf(INFIX));
            }
        }
        text.append(chance(3) ? "f()" : "c").append(behind);
        text.append(chance(8) ? " d" : "");
    }
}
