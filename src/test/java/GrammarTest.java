import java.util.ArrayList;
import java.util.HashMap;
import java.util.LinkedHashSet;
import java.util.List;
import java.util.Map;
import java.util.Random;
import java.util.Set;
import java.util.regex.Matcher;
import java.util.regex.Pattern;

/**
 * Promises 4 to 6: texts whose tokens do not fit the grammar. Beside written cases, many made ones
 * are compared with the document's own rules, which are tried all at once (Earley's way): the first
 * token with which none of them goes on is the place that is due.
 */
public final class GrammarTest {
    private static final int GRAMMAR = 9;

    private GrammarTest() {
    }

    public static void main(String[] arguments) {
        statements();
        blocks();
        expressions();
        madeTexts();
        Check.finish();
    }

    private static void refused(String text, int where) {
        Check.refused(text, GRAMMAR, where);
    }

    private static void statements() {
        refused("a = = 1", 4);
        refused("a b", 2);
        refused(";", 0);
        refused("a;;b", 2);
        refused("a;\n;", 3);
        refused("\\\n", 2);
        refused("\\\n\n", 2);
        refused("a = b = c", 6);
        refused("1 = a", 2);
        refused("a.b = c", 4);
        refused("(a) = c", 4);
        refused("a + b = c", 6);
        refused("return a = b", 9);
        refused("a = pass", 4);
        refused("a = return", 4);
        refused("a =", 3);
        refused("a =\n", 3);
        refused("pass a", 5);
        refused("pass = a", 5);
        refused("return pass", 7);
        refused("return return", 7);
        refused("break()", 5);
        refused("a: b", 1);
        refused("a, b", 1);
        refused("if = a", 3);
        refused("a; if b: c", 3);
    }

    private static void blocks() {
        refused("  a", 2);
        refused("a\n  b", 4);
        refused("if a", 4);
        refused("if a\n", 4);
        refused("if: a", 2);
        refused("if a:", 5);
        refused("if a:\n", 6);
        refused("if a:\nb", 6);
        refused("if a:\n# b\n", 10);
        refused("if a: if b: c", 6);
        refused("if a: while b: c", 6);
        refused("if a: def f(): c", 6);
        refused("if a: b\n  c", 10);
        refused("if a: ;", 6);
        refused("if a = b: c", 5);
        refused("else: a", 0);
        refused("elif a: b", 0);
        refused("a\nelse: b", 2);
        refused("while a: b\nelse: c", 11);
        refused("if a: b\nelse: c\nelse: d", 16);
        refused("if a: b\nelse: c\nelif d: e", 16);
        refused("if a: b\nelse c: d", 13);
        refused("if a: b\nelse if c: d", 13);
        refused("if a:\n  b\n  else: c", 12);
        refused("if a:\n  if b:\n    c\nd\nelse: e", 22);
        refused("if a:\n  b\nc\nelif d: e", 12);
        refused("if a:\n \\\n", 9);
        refused("while", 5);
        refused("def (a): b", 4);
        refused("def if(a): b", 4);
        refused("def f: a", 5);
        refused("def f(1): a", 6);
        refused("def f(a,): b", 8);
        refused("def f(,): b", 6);
        refused("def f(a b): c", 8);
        refused("def f(a=b): c", 7);
        refused("def f((a)): c", 6);
        refused("def f() a", 8);
        refused("def f.g(): a", 5);
        refused("def f(or): a", 6);
    }

    private static void expressions() {
        refused("not", 3);
        refused("-", 1);
        refused("+ a", 0);
        refused("a +", 3);
        refused("a + + b", 4);
        refused("a or", 4);
        refused("a or or b", 5);
        refused("a not b", 2);
        refused("a < b < c", 6);
        refused("not a < b == c", 10);
        refused("(a < b < c)", 7);
        refused("a == not b", 5);
        refused("a + not b", 4);
        refused("- not a", 2);
        refused("()", 1);
        refused("(a, b)", 2);
        refused("(a b)", 3);
        refused("(a;b)", 2);
        refused("(a = b)", 3);
        refused("[a,]", 3);
        refused("[,a]", 1);
        refused("[a b]", 3);
        refused("[a:b]", 2);
        refused("f(a,)", 4);
        refused("f(,a)", 2);
        refused("f(a=b)", 3);
        refused("f(pass)", 2);
        refused("a[]", 2);
        refused("a[b,c]", 3);
        refused("x.1", 2);
        refused("x.", 2);
        refused("x.if", 2);
        refused("x.(a)", 2);
        refused(".x", 0);
        refused("1.5", 2);
        refused("a 1", 2);
        refused("'a' 'b'", 4);
        refused("if a or: b", 7);
    }

    private static final String[] WORDS = {"if", "elif", "else", "while", "def", "return", "pass",
        "break", "and", "or", "not"};

    private static final String RULES = "whole: statements END\n"
            + "statements: | statement statements\n"
            + "statement: line | if expression : block elifs else | while expression : block"
            + " | def NAME ( names ) : block\n"
            + "elifs: | elif expression : block elifs\n"
            + "else: | else' : block\n"
            + "names: | NAME more-names\n"
            + "more-names: | , NAME more-names\n"
            + "block: line | NEWLINE INDENT statement statements DEDENT\n"
            + "line: small smalls semicolon NEWLINE\n"
            + "smalls: | ; small smalls\n"
            + "semicolon: | ;\n"
            + "small: pass | break | return | return expression | NAME = expression | expression\n"
            + "expression: or-rule\n"
            + "or-rule: and-rule | or-rule or and-rule\n"
            + "and-rule: not-rule | and-rule and not-rule\n"
            + "not-rule: not not-rule | compare\n"
            + "compare: sum | sum comparing sum\n"
            + "comparing: == | != | < | > | <= | >=\n"
            + "sum: product | sum + product | sum - product\n"
            + "product: sign | product * sign | product / sign | product % sign\n"
            + "sign: - sign | part\n"
            + "part: atom | part ( list ) | part [ expression ] | part . NAME\n"
            + "list: | expressions\n"
            + "expressions: expression | expressions , expression\n"
            + "atom: NAME | NUMBER | STRING | ( expression ) | [ list ]\n";

    private static final Map<String, List<String[]>> GRAMMAR_RULES = rules();

    private static Map<String, List<String[]>> rules() {
        Map<String, List<String[]>> all = new HashMap<>();
        for (String rule : RULES.split("\n")) {
            int colon = rule.indexOf(": ");
            List<String[]> ways = new ArrayList<>();
            for (String way : rule.substring(colon + 2).split("\\|", -1)) {
                String parts = way.trim();
                ways.add(parts.isEmpty() ? new String[0] : parts.split(" +"));
            }
            all.put(rule.substring(0, colon), ways);
        }
        return all;
    }

    /** A rule that was begun at a token and has come so far. */
    private record Item(String rule, int way, int done, int begun) {
        String next() {
            String[] parts = GRAMMAR_RULES.get(rule).get(way);
            return done < parts.length ? parts[done] : null;
        }

        Item moved() {
            return new Item(rule, way, done + 1, begun);
        }
    }

    /** The first token with which no right text goes on, or -1. */
    private static int firstWrong(List<String> tokens) {
        List<Set<Item>> sets = new ArrayList<>();
        Set<Item> first = new LinkedHashSet<>();
        addRules("whole", 0, first);
        sets.add(first);
        for (int at = 0; at < tokens.size(); at++) {
            complete(sets, at);
            Set<Item> next = new LinkedHashSet<>();
            for (Item item : sets.get(at)) {
                if (tokens.get(at).equals(item.next())) {
                    next.add(item.moved());
                }
            }
            if (next.isEmpty()) {
                return at;
            }
            sets.add(next);
        }
        return -1;
    }

    private static void addRules(String rule, int at, Set<Item> items) {
        for (int way = 0; way < GRAMMAR_RULES.get(rule).size(); way++) {
            items.add(new Item(rule, way, 0, at));
        }
    }

    private static void complete(List<Set<Item>> sets, int at) {
        Set<Item> items = sets.get(at);
        int before = -1;
        while (before != items.size()) {
            before = items.size();
            for (Item item : new ArrayList<>(items)) {
                String next = item.next();
                if (next == null) {
                    for (Item waiting : new ArrayList<>(sets.get(item.begun()))) {
                        if (item.rule().equals(waiting.next())) {
                            items.add(waiting.moved());
                        }
                    }
                } else if (GRAMMAR_RULES.containsKey(next)) {
                    addRules(next, at, items);
                }
            }
        }
    }

    private static final String[] PIECES = {"a", "b", "1", "'c'", "(", ")", "[", "]", ",", ":", "=",
        "<", "==", ".", ";", "+", "-", "*", "if ", "else", "elif ", "while ", "def ", "return ",
        "pass", "break", " and ", " or ", "not ", "\n", "\n  ", "\n    ", "\n", " "};

    /** Longer stretches that are right, so that what is wrong stands far behind the beginning too. */
    private static final String[] STRETCHES = {"if a:\n  b\n", "if a: b\n", "elif c: d\n",
        "else: e\n", "else:\n  f\n", "while a: ", "def f(a, b): ", "x = ", "f(a, b)", "[a, 1]",
        "a[b]", "a.b", "not a < b", "a + b * c", "(a or b)", "return a\n", ";", "\n", "  ", " "};

    private static void madeTexts() {
        Random random = new Random(20261115);
        int fit = 0;
        int unfit = 0;
        for (int i = 0; i < 30000; i++) {
            String text = madeText(random, i % 3);
            Front front = Check.typed(text);
            boolean isRead = Check.read(front) >= 0;
            if (isRead) {
                fit++;
            } else if (front.why() == GRAMMAR) {
                unfit++;
            } else {
                continue;
            }
            int where = front.where();
            Check.same(Check.show(text) + " where()", where, duePlace(text));
        }
        Check.same("enough of both", fit > 500 && unfit > 5000, true);
    }

    private static String madeText(Random random, int way) {
        StringBuilder text = new StringBuilder();
        int pieces = 1 + random.nextInt(12);
        for (int i = 0; i < pieces; i++) {
            boolean isShort = way == 0 || (way == 2 && random.nextInt(4) == 0);
            String[] from = isShort ? PIECES : STRETCHES;
            text.append(from[random.nextInt(from.length)]);
        }
        return text.toString();
    }

    private static final Pattern TOKEN =
            Pattern.compile("[a-z][a-z0-9]*|[0-9]+|'[^']*'|[=!<>]=|[^ ]");

    private static int duePlace(String text) {
        List<Integer> places = new ArrayList<>();
        int wrong = firstWrong(scanned(text, places));
        return wrong < 0 ? -1 : places.get(wrong);
    }

    /**
     * The tokens of a made text, of which it is known already that they can be taken. It is a
     * second way to take them: line by line, for texts without TAB, "#" and joined lines.
     */
    private static List<String> scanned(String text, List<Integer> places) {
        List<String> tokens = new ArrayList<>();
        List<Integer> widths = new ArrayList<>(List.of(0));
        int open = 0;
        int begun = 0;
        for (String line : text.split("\n", -1)) {
            boolean isEmpty = line.isBlank();
            if (!isEmpty && open == 0) {
                int width = line.length() - line.stripLeading().length();
                if (width > widths.get(widths.size() - 1)) {
                    widths.add(width);
                    add(tokens, places, "INDENT", begun + width);
                }
                while (width < widths.get(widths.size() - 1)) {
                    widths.remove(widths.size() - 1);
                    add(tokens, places, "DEDENT", begun + width);
                }
            }
            Matcher found = TOKEN.matcher(line);
            while (found.find()) {
                String token = found.group();
                open += token.matches("[(\\[]") ? 1 : token.matches("[)\\]]") ? -1 : 0;
                add(tokens, places, terminal(token), begun + found.start());
            }
            if (!isEmpty && open == 0) {
                add(tokens, places, "NEWLINE", begun + line.length());
            }
            begun += line.length() + 1;
        }
        for (int i = 1; i < widths.size(); i++) {
            add(tokens, places, "DEDENT", text.length());
        }
        add(tokens, places, "END", text.length());
        return tokens;
    }

    private static void add(List<String> tokens, List<Integer> places, String token, int place) {
        tokens.add(token);
        places.add(place);
    }

    private static String terminal(String token) {
        for (String word : WORDS) {
            if (word.equals(token)) {
                return word.equals("else") ? "else'" : word;
            }
        }
        char c = token.charAt(0);
        if (c >= 'a' && c <= 'z') {
            return "NAME";
        }
        if (c >= '0' && c <= '9') {
            return "NUMBER";
        }
        return c == '\'' ? "STRING" : token;
    }
}
