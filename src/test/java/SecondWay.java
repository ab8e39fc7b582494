import java.util.ArrayDeque;
import java.util.ArrayList;
import java.util.Deque;
import java.util.List;
import java.util.Map;
import java.util.regex.Matcher;
import java.util.regex.Pattern;

/**
 * The document's rules done a second way, to compare the class with: tokens by patterns, expressions
 * by a stack of what is open instead of a method for each rule, the output by the least strength that
 * a part needs at its place.
 */
final class SecondWay {
    private static final Pattern NAME = Pattern.compile("[A-Za-z_][A-Za-z_0-9]*");
    private static final Pattern NUMBER = Pattern.compile("[0-9]+");
    private static final Pattern STRING = Pattern.compile("'(?:[^'\\\\\n]|\\\\[^\n])*'|\"(?:[^\"\\\\\n]|\\\\[^\n])*\"");
    private static final Pattern SIGN = Pattern.compile("[=!<>]=|[-+*/%()\\[\\],:=<>.;]");
    private static final Pattern EMPTY = Pattern.compile("[ \t]*(?:#[^\n]*)?(?:\n|\\z)");
    private static final String WORDS = " if elif else while def return pass break and or not ";
    private static final Map<String, Integer> STRENGTHS = Map.ofEntries(Map.entry("or", 1),
            Map.entry("and", 2), Map.entry("==", 4), Map.entry("!=", 4), Map.entry("<", 4),
            Map.entry(">", 4), Map.entry("<=", 4), Map.entry(">=", 4), Map.entry("+", 5),
            Map.entry("-", 5), Map.entry("*", 6), Map.entry("/", 6), Map.entry("%", 6));

    private record Token(int kind, int place, String text) {
        /** What the grammar knows it by. */
        String mark() {
            return switch (kind) {
                case 1 -> "NAME";
                case 3 -> "NUMBER";
                case 4 -> "STRING";
                case 6 -> "NEWLINE";
                case 7 -> "INDENT";
                case 8 -> "DEDENT";
                case 9 -> "END";
                default -> text;
            };
        }
    }

    private static final class Node {
        private final int kind;
        private int token;
        private int height = 1;
        private final List<Node> parts = new ArrayList<>();

        Node(int kind, int token, Node... parts) {
            this.kind = kind;
            this.token = token;
            for (Node part : parts) {
                add(part);
            }
        }

        void add(Node part) {
            parts.add(part);
            height = Math.max(height, part.height + 1);
        }
    }

    /** What is open in an expression: a bracket (strength 0), or a word or sign before its part. */
    private record Open(int kind, int token, int strength, Node ahead) {
    }

    private static final class Refused extends RuntimeException {
        private static final long serialVersionUID = 1L;
        private final int why;
        private final int where;

        Refused(int why, int where) {
            this.why = why;
            this.where = where;
        }
    }

    private final String text;
    private final List<Token> tokens = new ArrayList<>();
    private final List<int[]> widths = new ArrayList<>();
    private final List<Integer> brackets = new ArrayList<>();
    private final StringBuilder output = new StringBuilder();
    private int place = 0;
    private int next = 0;

    private SecondWay(String text) {
        this.text = text;
    }

    /** All that is due behind read(), in the form of Check.state. */
    static String state(String text) {
        SecondWay way = new SecondWay(text);
        try {
            way.scan();
            Node whole = way.statements("END");
            way.writeBlock(whole, 0);
            StringBuilder all = new StringBuilder();
            for (Token token : way.tokens) {
                all.append(all.length() == 0 ? "" : " ").append(token.kind()).append('@');
                all.append(token.place()).append('+').append(token.text().length());
            }
            all.append('|');
            show(whole, all);
            return all.append('|').append(way.output).append("|0@-1").toString();
        } catch (Refused refused) {
            return "|||" + refused.why + "@" + refused.where;
        }
    }

    private static void show(Node node, StringBuilder all) {
        all.append(node.kind).append('@').append(node.token);
        for (int i = 0; i < node.parts.size(); i++) {
            all.append(i == 0 ? '(' : ' ');
            show(node.parts.get(i), all);
        }
        all.append(node.parts.isEmpty() ? "" : ")");
    }

    private void take(int kind, String what) {
        if (tokens.size() == 120) {
            throw new Refused(8, place);
        }
        tokens.add(new Token(kind, place, what));
        place += what.length();
    }

    private void scan() {
        widths.add(new int[] {0, 0});
        boolean isLine = false;
        while (place < text.length()) {
            if (!isLine) {
                Matcher empty = EMPTY.matcher(text).region(place, text.length());
                if (empty.lookingAt()) {
                    place = empty.end();
                    continue;
                }
                beginLine();
                isLine = true;
            }
            char c = text.charAt(place);
            if (c == '\n' && brackets.isEmpty()) {
                take(6, "\n");
                isLine = false;
            } else if (c == ' ' || c == '\t' || c == '\n') {
                place++;
            } else if (text.startsWith("\\\n", place)) {
                place += 2;
            } else if (c == '#') {
                int end = text.indexOf('\n', place);
                place = end < 0 ? text.length() : end;
            } else {
                takeOne(c);
            }
        }
        if (!brackets.isEmpty()) {
            throw new Refused(4, brackets.get(brackets.size() - 1));
        }
        if (isLine) {
            take(6, "");
        }
        for (int i = 1; i < widths.size(); i++) {
            take(8, "");
        }
        take(9, "");
    }

    private int[] lastWidths() {
        return widths.get(widths.size() - 1);
    }

    private void beginLine() {
        int begun = place;
        int width = 0;
        while (" \t".indexOf(text.charAt(place)) >= 0) {
            width++;
            while (text.charAt(place) == '\t' && width % 8 != 0) {
                width++;
            }
            place++;
        }
        int narrow = place - begun;
        if (width > lastWidths()[0]) {
            if (narrow <= lastWidths()[1]) {
                throw new Refused(1, place);
            }
            if (widths.size() == 9) {
                throw new Refused(3, place);
            }
            widths.add(new int[] {width, narrow});
            take(7, "");
        }
        while (width < lastWidths()[0]) {
            widths.remove(widths.size() - 1);
            take(8, "");
        }
        if (width != lastWidths()[0]) {
            throw new Refused(2, place);
        }
        if (narrow != lastWidths()[1]) {
            throw new Refused(1, place);
        }
    }

    private String found(Pattern pattern) {
        Matcher matcher = pattern.matcher(text).region(place, text.length());
        return matcher.lookingAt() ? matcher.group() : null;
    }

    private void takeOne(char c) {
        String name = found(NAME);
        String number = found(NUMBER);
        String sign = found(SIGN);
        if (name != null) {
            take(WORDS.contains(" " + name + " ") ? 2 : 1, name);
        } else if (number != null) {
            int end = place + number.length();
            if (NAME.matcher(text).region(end, text.length()).lookingAt()) {
                throw new Refused(6, place);
            }
            take(3, number);
        } else if (c == '\'' || c == '"') {
            String string = found(STRING);
            if (string == null) {
                throw new Refused(5, place);
            }
            take(4, string);
        } else if (sign == null) {
            throw new Refused(7, place);
        } else {
            countBracket(c);
            take(5, sign);
        }
    }

    private void countBracket(char c) {
        if (c == '(' || c == '[') {
            if (brackets.size() == 8) {
                throw new Refused(3, place);
            }
            brackets.add(place);
        } else if (c == ')' || c == ']') {
            char last = brackets.isEmpty() ? ' ' : text.charAt(brackets.get(brackets.size() - 1));
            if (last != (c == ')' ? '(' : '[')) {
                throw new Refused(4, place);
            }
            brackets.remove(brackets.size() - 1);
        }
    }

    private String mark() {
        return tokens.get(next).mark();
    }

    private Refused unfit() {
        return new Refused(9, tokens.get(next).place());
    }

    private int expect(String mark) {
        if (!mark().equals(mark)) {
            throw unfit();
        }
        return next++;
    }

    private boolean passed(String mark) {
        boolean isThere = mark().equals(mark);
        next += isThere ? 1 : 0;
        return isThere;
    }

    private Node statements(String closing) {
        Node block = new Node(9, next);
        while (!passed(closing)) {
            statement(block);
        }
        return named(block);
    }

    private Node named(Node block) {
        block.token = block.parts.isEmpty() ? block.token : block.parts.get(0).token;
        return block;
    }

    private void statement(Node block) {
        if (mark().equals("if")) {
            block.add(branch());
        } else if (mark().equals("while")) {
            block.add(new Node(7, next++, condition(), block()));
        } else if (passed("def")) {
            Node made = new Node(8, expect("NAME"));
            expect("(");
            if (!passed(")")) {
                do {
                    made.add(new Node(24, expect("NAME")));
                } while (passed(","));
                expect(")");
            }
            expect(":");
            made.add(block());
            block.add(made);
        } else {
            line(block);
        }
    }

    private Node branch() {
        Node made = new Node(6, next++, condition(), block());
        if (mark().equals("elif")) {
            made.add(branch());
        } else if (passed("else")) {
            expect(":");
            made.add(block());
        }
        return made;
    }

    private Node condition() {
        Node made = expression();
        expect(":");
        return made;
    }

    private Node block() {
        if (passed("NEWLINE")) {
            expect("INDENT");
            return statements("DEDENT");
        }
        Node block = new Node(9, next);
        line(block);
        return named(block);
    }

    private void line(Node block) {
        do {
            block.add(small());
        } while (passed(";") && !mark().equals("NEWLINE"));
        expect("NEWLINE");
    }

    private Node small() {
        if (mark().equals("pass")) {
            return new Node(1, next++);
        }
        if (mark().equals("break")) {
            return new Node(2, next++);
        }
        if (mark().equals("return")) {
            Node made = new Node(3, next++);
            if (!mark().equals("NEWLINE") && !mark().equals(";")) {
                made.add(expression());
            }
            return made;
        }
        if (mark().equals("NAME") && tokens.get(next + 1).mark().equals("=")) {
            next += 2;
            return new Node(4, next - 2, expression());
        }
        Node value = expression();
        return new Node(5, value.token, value);
    }

    private final Deque<Open> open = new ArrayDeque<>();
    private final Deque<Node> values = new ArrayDeque<>();

    private Node expression() {
        open.clear();
        values.clear();
        while (true) {
            operand();
            if (!goOn()) {
                return values.pop();
            }
        }
    }

    private void push(int kind, int strength, Node ahead) {
        if (open.size() == 12) {
            throw new Refused(3, tokens.get(next).place());
        }
        open.push(new Open(kind, next++, strength, ahead));
    }

    private Node checked(Node made) {
        if (made.height > 10) {
            throw new Refused(3, tokens.get(made.token).place());
        }
        return made;
    }

    /** All up to a name, number, string or empty list. */
    private void operand() {
        while (true) {
            String mark = mark();
            if (mark.equals("NAME") || mark.equals("NUMBER") || mark.equals("STRING")) {
                values.push(new Node(mark.equals("NAME") ? 20 : mark.equals("NUMBER") ? 21 : 22, next++));
                return;
            }
            if (mark.equals("-")) {
                push(16, 7, null);
            } else if (mark.equals("not") && (open.isEmpty() || open.peek().strength() <= 3)) {
                push(13, 3, null);
            } else if (mark.equals("(")) {
                push(0, 0, null);
            } else if (mark.equals("[")) {
                push(23, 0, new Node(23, next));
                if (passed("]")) {
                    values.push(open.pop().ahead());
                    return;
                }
            } else {
                throw unfit();
            }
        }
    }

    /** Takes what stands behind a whole part; whether another part has to follow. */
    private boolean goOn() {
        while (true) {
            String mark = mark();
            if (STRENGTHS.containsKey(mark)) {
                int strength = STRENGTHS.get(mark);
                boolean isSecond = makeWhole(strength);
                if (isSecond && strength == 4) {
                    makeWhole(1);
                    throw unfit();
                }
                push(strength == 1 ? 11 : strength == 2 ? 12 : strength == 4 ? 14 : 15, strength, values.pop());
                return true;
            }
            if (mark.equals(".")) {
                next++;
                values.push(checked(new Node(19, expect("NAME"), values.pop())));
            } else if (mark.equals("(")) {
                push(17, 0, new Node(17, next, values.pop()));
                if (!passed(")")) {
                    return true;
                }
                values.push(checked(open.pop().ahead()));
            } else if (mark.equals("[")) {
                push(18, 0, new Node(18, next, values.pop()));
                return true;
            } else {
                makeWhole(1);
                if (open.isEmpty()) {
                    return false;
                }
                if (endPart(mark)) {
                    return true;
                }
            }
        }
    }

    /** Behind an expression in brackets: whether another one follows in the same brackets. */
    private boolean endPart(String mark) {
        Open bracket = open.peek();
        boolean isRow = bracket.kind() == 17 || bracket.kind() == 23;
        boolean isRound = bracket.kind() == 17 || bracket.kind() == 0;
        if (isRow && mark.equals(",")) {
            bracket.ahead().add(values.pop());
            next++;
            return true;
        }
        if (!mark.equals(isRound ? ")" : "]")) {
            throw unfit();
        }
        next++;
        open.pop();
        if (bracket.kind() != 0) {
            bracket.ahead().add(values.pop());
            values.push(checked(bracket.ahead()));
        }
        return false;
    }

    /** Ends what is open and binds at least so strongly; whether one bound just so strongly. */
    private boolean makeWhole(int strength) {
        boolean isEqual = false;
        while (!open.isEmpty() && open.peek().strength() >= strength) {
            Open last = open.pop();
            isEqual |= last.strength() == strength;
            Node made = new Node(last.kind(), last.token());
            if (last.ahead() != null) {
                made.add(last.ahead());
            }
            made.add(values.pop());
            values.push(checked(made));
        }
        return isEqual;
    }

    private void writeBlock(Node block, int depth) {
        for (Node statement : block.parts) {
            writeStatement(statement, depth, "");
        }
    }

    private String textOf(Node node) {
        return tokens.get(node.token).text();
    }

    private void writeStatement(Node statement, int depth, String ahead) {
        String blanks = "  ".repeat(depth);
        List<Node> parts = statement.parts;
        output.append(blanks).append(ahead);
        switch (statement.kind) {
            case 1 -> output.append("pass\n");
            case 2 -> output.append("break\n");
            case 3 -> output.append(parts.isEmpty() ? "return" : "return " + part(statement, 0, 0)).append("\n");
            case 4 -> output.append(textOf(statement) + " = " + part(statement, 0, 0) + "\n");
            case 5 -> output.append(part(statement, 0, 0) + "\n");
            case 6, 7 -> {
                output.append(statement.kind == 6 ? "if " : "while ").append(part(statement, 0, 0)).append(":\n");
                writeBlock(parts.get(1), depth + 1);
                if (parts.size() > 2 && parts.get(2).kind == 6) {
                    writeStatement(parts.get(2), depth, "el");
                } else if (parts.size() > 2) {
                    output.append(blanks).append("else:\n");
                    writeBlock(parts.get(2), depth + 1);
                }
            }
            default -> {
                List<String> names = new ArrayList<>();
                for (Node part : parts.subList(0, parts.size() - 1)) {
                    names.add(textOf(part));
                }
                output.append("def " + textOf(statement) + "(" + String.join(", ", names) + "):\n");
                writeBlock(parts.get(parts.size() - 1), depth + 1);
            }
        }
    }

    /** A part as it is written where the grammar wants at least a strength. */
    private String part(Node whole, int number, int least) {
        Node part = whole.parts.get(number);
        String written = expression(part);
        return strength(part) < least ? "(" + written + ")" : written;
    }

    private int strength(Node node) {
        return switch (node.kind) {
            case 11, 12, 14, 15 -> STRENGTHS.get(textOf(node));
            case 13 -> 3;
            case 16 -> 7;
            default -> 8;
        };
    }

    private String expression(Node node) {
        int strength = strength(node);
        return switch (node.kind) {
            case 11, 12, 15 -> part(node, 0, strength) + " " + textOf(node) + " " + part(node, 1, strength + 1);
            case 14 -> part(node, 0, 5) + " " + textOf(node) + " " + part(node, 1, 5);
            case 13 -> "not " + part(node, 0, 3);
            case 16 -> "-" + part(node, 0, 7);
            case 17 -> part(node, 0, 8) + "(" + row(node, 1) + ")";
            case 18 -> part(node, 0, 8) + "[" + row(node, 1) + "]";
            case 19 -> part(node, 0, 8) + "." + textOf(node);
            case 23 -> "[" + row(node, 0) + "]";
            default -> textOf(node);
        };
    }

    private String row(Node node, int from) {
        List<String> all = new ArrayList<>();
        for (int i = from; i < node.parts.size(); i++) {
            all.add(part(node, i, 0));
        }
        return String.join(", ", all);
    }
}
