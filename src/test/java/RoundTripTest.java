import java.util.Random;

/**
 * Promises 4 and 8 to 11 over made programs: what a program means is known before it is written
 * down, with needless brackets, blanks, short blocks and joined lines; its tree and its output have
 * to be the known ones, and the output, read again, has to have the same tree.
 */
public final class RoundTripTest {
    private static final int DEEP = 3;
    private static final int ROOM = 8;

    private final Random random;
    private final StringBuilder text = new StringBuilder();
    private final StringBuilder shape = new StringBuilder();
    private final StringBuilder due = new StringBuilder();
    private int highest;

    private RoundTripTest(long seed) {
        random = new Random(seed);
    }

    public static void main(String[] arguments) {
        int read = 0;
        int tooHigh = 0;
        for (int seed = 0; seed < 20000; seed++) {
            RoundTripTest made = new RoundTripTest(seed);
            made.block(0, 1 + seed % 3, "");
            if (made.text.length() > 600) {
                continue;
            }
            Front front = Check.typed(made.text.toString());
            boolean isRead = Check.read(front) >= 0;
            String name = Check.show(made.text.toString());
            if (isRead) {
                read++;
                Check.same(name + " shape", Check.shape(front), made.shape.toString());
                Check.same(name + " output", Check.output(front), made.due.toString());
                Check.same(name + " height", made.highest <= 10, true);
                again(name, front);
            } else {
                tooHigh += made.highest > 10 ? 1 : 0;
                Check.same(name + " why", front.why() == DEEP || front.why() == ROOM, true);
            }
        }
        Check.same("enough " + read + ", " + tooHigh, read > 10000 && tooHigh > 20, true);
        Check.finish();
    }

    private static void again(String name, Front front) {
        String output = Check.output(front);
        if (output.length() > 600) {
            return;
        }
        Front other = Check.typed(output);
        if (Check.read(other) < 0) {
            // Only what the output has more of, the tokens of blocks, may be too much.
            Check.same(name + " again why", other.why() == DEEP || other.why() == ROOM, true);
            return;
        }
        Check.same(name + " again shape", Check.shape(other), Check.shape(front));
        Check.same(name + " again output", Check.output(other), output);
    }

    private boolean chance(int of) {
        return random.nextInt(of) == 0;
    }

    private String blank() {
        return chance(6) ? " " : chance(20) ? "\t" : chance(40) ? " \\\n" : "";
    }

    private void put(String token) {
        if (text.length() > 0 && isNameLike(text.charAt(text.length() - 1)) && isNameLike(token.charAt(0))) {
            text.append(' ');
        }
        text.append(token).append(blank());
    }

    private static boolean isNameLike(char c) {
        return Character.isLetterOrDigit(c) || c == '_' || c == '\'' || c == '"';
    }

    private void block(int depth, int size, String ahead) {
        shape.append('9').append('(');
        for (int i = 0; i < size; i++) {
            shape.append(i == 0 ? "" : " ");
            text.append(ahead);
            due.append("  ".repeat(depth));
            if (depth < 4 && chance(3)) {
                great(depth, ahead);
            } else {
                small();
                text.append(chance(4) ? ";" : "").append(chance(9) ? "#(" : "").append('\n');
            }
            text.append(chance(9) ? "   # '\n" : "").append(chance(9) ? " \n" : "");
        }
        shape.append(')');
    }

    private void great(int depth, String ahead) {
        int way = random.nextInt(3);
        if (way == 0) {
            put("if");
            due.append("if ");
            branch("6(", depth, ahead);
            return;
        }
        if (way == 1) {
            put("while");
            due.append("while ");
            shape.append("7(");
            condition(depth, ahead);
        } else {
            put("def");
            put("f");
            put("(");
            due.append("def f(");
            shape.append("8(");
            int names = random.nextInt(3);
            for (int i = 0; i < names; i++) {
                due.append(i == 0 ? "" : ", ").append("p");
                shape.append("24 ");
                if (i > 0) {
                    put(",");
                }
                put("p");
            }
            put(")");
            put(":");
            due.append("):\n");
            inner(depth, ahead);
        }
        shape.append(')');
    }

    private void branch(String beginning, int depth, String ahead) {
        shape.append(beginning);
        condition(depth, ahead);
        if (chance(3)) {
            text.append(ahead);
            put("elif");
            due.append("  ".repeat(depth)).append("elif ");
            branch(" 6(", depth, ahead);
        } else if (chance(2)) {
            text.append(ahead);
            put("else");
            put(":");
            due.append("  ".repeat(depth)).append("else:\n");
            shape.append(' ');
            inner(depth, ahead);
        }
        shape.append(')');
    }

    private void condition(int depth, String ahead) {
        whole();
        shape.append(' ');
        put(":");
        due.append(":\n");
        inner(depth, ahead);
    }

    private void inner(int depth, String ahead) {
        if (chance(2)) {
            text.append('\n');
            block(depth + 1, 1 + random.nextInt(2), ahead + (chance(2) ? "\t" : chance(2) ? "  " : " \t "));
            return;
        }
        shape.append("9(");
        int size = 1 + random.nextInt(2);
        for (int i = 0; i < size; i++) {
            shape.append(i == 0 ? "" : " ");
            due.append("  ".repeat(depth + 1));
            if (i > 0) {
                put(";");
            }
            small();
        }
        shape.append(')');
        text.append('\n');
    }

    private void small() {
        switch (random.nextInt(6)) {
            case 0 -> {
                put("pass");
                due.append("pass");
                shape.append('1');
            }
            case 1 -> {
                put("break");
                due.append("break");
                shape.append('2');
            }
            case 2 -> {
                put("return");
                due.append("return");
                shape.append('3');
                if (chance(2)) {
                    due.append(' ');
                    part("(");
                }
            }
            case 3 -> {
                put("x");
                put("=");
                due.append("x = ");
                shape.append('4');
                part("(");
            }
            default -> {
                shape.append('5');
                part("(");
            }
        }
        due.append('\n');
    }

    private void part(String opening) {
        shape.append(opening);
        whole();
        shape.append(')');
    }

    /** An expression where the grammar asks for no strength. */
    private void whole() {
        Made made = expression(chance(30) ? 14 : random.nextInt(5));
        highest = Math.max(highest, made.height);
        String[] tokens = made.loose.trim().split("\u0000+");
        for (String token : tokens) {
            if (!token.isEmpty()) {
                put(token);
            }
        }
        due.append(made.tight);
        shape.append(made.shape);
    }

    /** An expression: its shape, what is typed of it, what is due as output, and how it binds. */
    private record Made(String shape, String loose, String tight, int rule, int height) {
    }

    /** Its rule's number in the grammar, from 1 for "or" to 9 for "part" without words and signs. */
    private Made expression(int level) {
        if (level <= 0) {
            String[] atoms = {"a", "12", "'s t'", "\"\\\"\"", "b_1"};
            int[] kinds = {20, 21, 22, 22, 20};
            int i = random.nextInt(atoms.length);
            return new Made("" + kinds[i], atoms[i] + "\u0000", atoms[i], 9, 1);
        }
        switch (random.nextInt(9)) {
            case 0:
                return between(11, " or ", 1, 1, 2, level);
            case 1:
                return between(12, " and ", 2, 2, 3, level);
            case 2:
                return ahead(13, "not ", 3, level);
            case 3:
                return between(14, " " + pick("==", "!=", "<", ">", "<=", ">=") + " ", 4, 5, 5, level);
            case 4:
                return between(15, " " + pick("+", "-") + " ", 5, 5, 6, level);
            case 5:
                return between(15, " " + pick("*", "/", "%") + " ", 6, 6, 7, level);
            case 6:
                return ahead(16, "-", 7, level);
            case 7:
                return listed(level);
            default:
                return behind(level);
        }
    }

    private String pick(String... of) {
        return of[random.nextInt(of.length)];
    }

    /** A part that has to be of a rule or a later one, in brackets if it is not, and at times if so. */
    private Made fitted(Made part, int rule) {
        if (part.rule < rule) {
            return new Made(part.shape, "(\u0000" + part.loose + ")\u0000", "(" + part.tight + ")", 9,
                    part.height);
        }
        return chance(8) ? new Made(part.shape, "(\u0000" + part.loose + ")\u0000", part.tight, 9,
                part.height) : part;
    }

    private Made between(int kind, String sign, int rule, int left, int right, int level) {
        Made first = fitted(expression(level - 1), left);
        Made second = fitted(expression(random.nextInt(level)), right);
        return new Made(kind + "(" + first.shape + " " + second.shape + ")",
                first.loose + sign.trim() + "\u0000" + second.loose,
                first.tight + sign + second.tight, rule, 1 + Math.max(first.height, second.height));
    }

    private Made ahead(int kind, String sign, int rule, int level) {
        Made part = fitted(expression(level - 1), rule);
        return new Made(kind + "(" + part.shape + ")", sign.trim() + "\u0000" + part.loose,
                sign + part.tight, rule, 1 + part.height);
    }

    private Made listed(int level) {
        int size = random.nextInt(3);
        Made row = row(size, level);
        String shapes = size == 0 ? "23" : "23(" + row.shape.trim() + ")";
        return new Made(shapes, "[\u0000" + row.loose + "]\u0000", "[" + row.tight + "]", 9, 1 + row.height);
    }

    private Made row(int size, int level) {
        Made row = new Made("", "", "", 9, 0);
        for (int i = 0; i < size; i++) {
            Made next = fitted(expression(random.nextInt(level)), 1);
            row = new Made(row.shape + " " + next.shape, row.loose + (i == 0 ? "" : ",\u0000") + next.loose,
                    row.tight + (i == 0 ? "" : ", ") + next.tight, 9, Math.max(row.height, next.height));
        }
        return row;
    }

    private Made behind(int level) {
        Made first = fitted(expression(level - 1), 8);
        int way = random.nextInt(3);
        if (way == 0) {
            return new Made("19(" + first.shape + ")", first.loose + ".\u0000m\u0000", first.tight + ".m", 8,
                    1 + first.height);
        }
        Made row = row(way == 1 ? 1 : random.nextInt(3), level);
        String opening = way == 1 ? "[" : "(";
        String closing = way == 1 ? "]" : ")";
        return new Made((way == 1 ? "18(" : "17(") + first.shape + row.shape + ")",
                first.loose + opening + "\u0000" + row.loose + closing + "\u0000",
                first.tight + opening + row.tight + closing, 8, 1 + Math.max(first.height, row.height));
    }
}
