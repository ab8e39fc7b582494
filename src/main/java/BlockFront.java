import java.util.NoSuchElementException;

/**
 * The front of a small language in which blocks are lines that are indented alike: it takes a text
 * into tokens, reads these into a tree, or refuses the text at a place, and writes the tree out.
 */
public final class BlockFront {
    private static final int MOST_CHARACTERS = 600;
    private static final int MOST_TOKENS = 120;
    private static final int MOST_WIDTHS = 9;
    private static final int MOST_BRACKETS = 8;
    private static final int MOST_HEIGHT = 10;
    private static final int MOST_OPEN = 12;

    // A token is that of at most one expression, one statement and one block.
    private static final int MOST_NODES = 3 * MOST_TOKENS;

    // Of what is written, each token accounts for its own characters and for two blanks, or for an
    // end of line and the blanks that the next line begins with.
    private static final int MOST_WRITTEN = MOST_CHARACTERS + MOST_TOKENS * (3 + 2 * MOST_WIDTHS);

    private static final int NONE = -1;
    private static final char TAB = 9;
    private static final char END_OF_LINE = 10;
    private static final int TAB_STOP = 8;

    private static final int TABS = 1;
    private static final int STEP = 2;
    private static final int DEEP = 3;
    private static final int BRACKET = 4;
    private static final int QUOTE = 5;
    private static final int FIGURE = 6;
    private static final int CHARACTER = 7;
    private static final int ROOM = 8;
    private static final int GRAMMAR = 9;

    private static final int NAME = 1;
    private static final int WORD = 2;
    private static final int NUMBER = 3;
    private static final int STRING = 4;
    private static final int SIGN = 5;
    private static final int NEWLINE = 6;
    private static final int INDENT = 7;
    private static final int DEDENT = 8;
    private static final int END = 9;

    // A token's MARK is all that the grammar wants to know of it: a number of its own for each word,
    // the character of a sign of one character, that of the first one and PAIR for a sign of two,
    // and the kind of any other token. No two of these are the same number.
    private static final int WORD_IF = 11;
    private static final int WORD_ELIF = 12;
    private static final int WORD_ELSE = 13;
    private static final int WORD_WHILE = 14;
    private static final int WORD_DEF = 15;
    private static final int WORD_RETURN = 16;
    private static final int WORD_PASS = 17;
    private static final int WORD_BREAK = 18;
    private static final int WORD_AND = 19;
    private static final int WORD_OR = 20;
    private static final int WORD_NOT = 21;
    private static final int PAIR = 128;
    private static final String SINGLE_SIGNS = "+-*/%()[],:=<>.;";
    private static final String PAIR_BEGINNINGS = "=!<>";

    private static final int NODE_PASS = 1;
    private static final int NODE_BREAK = 2;
    private static final int NODE_RETURN = 3;
    private static final int NODE_SET = 4;
    private static final int NODE_VALUE = 5;
    private static final int NODE_IF = 6;
    private static final int NODE_WHILE = 7;
    private static final int NODE_DEF = 8;
    private static final int NODE_BLOCK = 9;
    private static final int NODE_OR = 11;
    private static final int NODE_AND = 12;
    private static final int NODE_NOT = 13;
    private static final int NODE_COMPARE = 14;
    private static final int NODE_SUM = 15;
    private static final int NODE_MINUS = 16;
    private static final int NODE_CALL = 17;
    private static final int NODE_INDEX = 18;
    private static final int NODE_MEMBER = 19;
    private static final int NODE_NAME = 20;
    private static final int NODE_NUMBER = 21;
    private static final int NODE_STRING = 22;
    private static final int NODE_LIST = 23;
    private static final int NODE_PARAMETER = 24;

    private static final int BINDS_OR = 1;
    private static final int BINDS_AND = 2;
    private static final int BINDS_NOT = 3;
    private static final int BINDS_COMPARE = 4;
    private static final int BINDS_SUM = 5;
    private static final int BINDS_PRODUCT = 6;
    private static final int BINDS_MINUS = 7;
    private static final int BINDS_MOST = 8;

    private final Text text;
    private final Refusal refusal;
    private final Tokens tokens;
    private final Tree tree;
    private final Scanner scanner;
    private final Parser parser;
    private final Writer writer;

    public BlockFront() {
        Text newText = new Text();
        Refusal newRefusal = new Refusal();
        Tokens newTokens = new Tokens();
        Tree newTree = new Tree();
        text = newText;
        refusal = newRefusal;
        tokens = newTokens;
        tree = newTree;
        scanner = new Scanner(newText, newTokens, newRefusal);
        parser = new Parser(newTokens, newTree, newRefusal);
        writer = new Writer(newText, newTokens, newTree);
    }

    public int type(long characters, int n) throws IllegalArgumentException, IllegalStateException {
        if (n < 1 || n > 8) {
            throw new IllegalArgumentException("n is not 1 .. 8");
        }
        // All are looked at before the first is added: a refused call leaves the text as it was.
        for (int i = 0; i < n; i++) {
            if (!isCharacter(byteAt(characters, i))) {
                throw new IllegalArgumentException("one is no character");
            }
        }
        if (text.size > MOST_CHARACTERS - n) {
            throw new IllegalStateException("the text would be too long");
        }
        for (int i = 0; i < n; i++) {
            text.add(byteAt(characters, i));
        }
        return text.size;
    }

    public int clear() {
        int size = text.size;
        text.size = 0;
        return size;
    }

    public int read() throws UnsupportedOperationException {
        refusal.forget();
        if (!scanner.scan() || !parser.parse()) {
            tokens.size = 0;
            tree.size = 0;
            writer.size = 0;
            throw new UnsupportedOperationException("the text is refused");
        }
        // It is written now because the text may change while what was read stays.
        writer.writeWhole();
        return tokens.size;
    }

    public int why() {
        return refusal.reason;
    }

    public int where() {
        return refusal.place;
    }

    public int token(int k, int what) throws NoSuchElementException {
        if (k < 0 || k >= tokens.size || what < 0 || what > 2) {
            throw new NoSuchElementException("no such token");
        }
        if (what == 0) {
            return tokens.kindAt(k);
        }
        return what == 1 ? tokens.placeAt(k) : tokens.extentAt(k);
    }

    public int nodes() {
        return tree.size;
    }

    public int node(int k, int what) throws NoSuchElementException {
        if (k < 0 || k >= tree.size || what < 0 || what > 2) {
            throw new NoSuchElementException("no such node");
        }
        int found = tree.numbered(k);
        if (what == 0) {
            return tree.kindOf(found);
        }
        return what == 1 ? tree.tokenOf(found) : tree.partsOf(found);
    }

    public int length() {
        return writer.size;
    }

    public char output(int place) throws NoSuchElementException {
        if (place < 0 || place >= writer.size) {
            throw new NoSuchElementException("no such place");
        }
        return writer.writtenAt(place);
    }

    private static char byteAt(long characters, int i) {
        return (char) ((characters >>> (8 * i)) & 255);
    }

    private static boolean isCharacter(char c) {
        return c == TAB || c == END_OF_LINE || (c >= 32 && c <= 126);
    }

    private static boolean isBlank(char c) {
        return c == ' ' || c == TAB;
    }

    private static boolean isDigit(char c) {
        return c >= '0' && c <= '9';
    }

    private static boolean beginsName(char c) {
        return (c >= 'a' && c <= 'z') || (c >= 'A' && c <= 'Z') || c == '_';
    }

    /** How strongly a word or sign between two expressions binds; 0 for any other mark. */
    private static int strengthBetween(int mark) {
        switch (mark) {
            case WORD_OR:
                return BINDS_OR;
            case WORD_AND:
                return BINDS_AND;
            case '=' + PAIR:
            case '!' + PAIR:
            case '<' + PAIR:
            case '>' + PAIR:
            case '<':
            case '>':
                return BINDS_COMPARE;
            case '+':
            case '-':
                return BINDS_SUM;
            case '*':
            case '/':
            case '%':
                return BINDS_PRODUCT;
            default:
                return 0;
        }
    }

    private static int kindBetween(int strength) {
        switch (strength) {
            case BINDS_OR:
                return NODE_OR;
            case BINDS_AND:
                return NODE_AND;
            case BINDS_COMPARE:
                return NODE_COMPARE;
            default:
                return NODE_SUM;
        }
    }

    /** The characters that were typed. */
    private static final class Text {
        private final char[] characters = new char[MOST_CHARACTERS];
        private int size = 0;

        void add(char c) {
            if (size >= 0 && size < characters.length) {
                characters[size] = c;
                size++;
            }
        }

        /** The character at a place, or 0, which is none, where the text has no place. */
        char at(int place) {
            return place >= 0 && place < size && place < characters.length ? characters[place] : 0;
        }

        boolean reads(String word, int place, int extent) {
            if (word.length() != extent) {
                return false;
            }
            for (int i = 0; i < word.length(); i++) {
                if (word.charAt(i) != at(place + i)) {
                    return false;
                }
            }
            return true;
        }
    }

    /** Why and where the latest reading ended early. */
    private static final class Refusal {
        private int reason = 0;
        private int place = NONE;

        void forget() {
            reason = 0;
            place = NONE;
        }

        void refuse(int newReason, int newPlace) {
            reason = newReason;
            place = newPlace;
            throw new IllegalStateException("refused");
        }
    }

    /** Numbers of which the last one that came is the first one to go. */
    private static final class Pile {
        private final int[] numbers;
        private int size = 0;

        Pile(int most) {
            numbers = new int[Math.max(most, 0)];
        }

        /** Whether there was room for it. */
        boolean push(int number) {
            if (size < 0 || size >= numbers.length) {
                return false;
            }
            numbers[size] = number;
            size++;
            return true;
        }

        void pop() {
            if (size > 0) {
                size--;
            }
        }

        int last() {
            return size > 0 && size <= numbers.length ? numbers[size - 1] : NONE;
        }
    }

    /** The tokens of the text, in order. */
    private static final class Tokens {
        private final int[] kinds = new int[MOST_TOKENS];
        private final int[] marks = new int[MOST_TOKENS];
        private final int[] places = new int[MOST_TOKENS];
        private final int[] extents = new int[MOST_TOKENS];
        private int size = 0;

        /** Whether there was room for it. */
        boolean add(int kind, int mark, int place, int extent) {
            if (size < 0 || size >= MOST_TOKENS) {
                return false;
            }
            kinds[size] = kind;
            marks[size] = mark;
            places[size] = place;
            extents[size] = extent;
            size++;
            return true;
        }

        int kindAt(int k) {
            return k >= 0 && k < size ? kinds[k] : NONE;
        }

        int markAt(int k) {
            return k >= 0 && k < size ? marks[k] : NONE;
        }

        int placeAt(int k) {
            return k >= 0 && k < size ? places[k] : NONE;
        }

        int extentAt(int k) {
            return k >= 0 && k < size ? extents[k] : 0;
        }
    }

    /** Takes the text into tokens. */
    private static final class Scanner {
        private final Text text;
        private final Tokens tokens;
        private final Refusal refusal;
        private final Pile widths = new Pile(MOST_WIDTHS);
        private final Pile narrows = new Pile(MOST_WIDTHS);
        private final Pile brackets = new Pile(MOST_BRACKETS);
        private int place = 0;
        private boolean inLine = false;

        Scanner(Text text, Tokens tokens, Refusal refusal) {
            this.text = text;
            this.tokens = tokens;
            this.refusal = refusal;
        }

        /** Whether the text could be taken; if not, it is refused. */
        boolean scan() {
            begin();
            try {
                takeAll();
                return true;
            } catch (IllegalStateException refused) {
                return false;
            }
        }

        private void takeAll() {
            for (int i = 0; i < MOST_CHARACTERS && place < text.size; i++) {
                if (!inLine) {
                    beginLine();
                }
                if (inLine) {
                    takeNext();
                }
            }
            finish();
        }

        private void begin() {
            tokens.size = 0;
            brackets.size = 0;
            widths.size = 0;
            widths.push(0);
            narrows.size = 0;
            narrows.push(0);
            place = 0;
            inLine = false;
        }

        private void beginLine() {
            int first = place;
            int width = 0;
            for (; place < text.size && isBlank(text.at(place)); place++) {
                width = text.at(place) == TAB ? width / TAB_STOP * TAB_STOP + TAB_STOP : width + 1;
            }
            char c = text.at(place);
            if (place >= text.size || c == END_OF_LINE || c == '#') {
                passToEndOfLine();
                place = Math.min(place + 1, text.size);
                return;
            }
            compareWidths(width, place - first);
            inLine = true;
        }

        private void passToEndOfLine() {
            while (place < text.size && text.at(place) != END_OF_LINE) {
                place++;
            }
        }

        private void compareWidths(int width, int narrow) {
            if (width > widths.last()) {
                beginBlock(width, narrow);
                return;
            }
            for (int i = 0; i < MOST_WIDTHS && widths.last() > width; i++) {
                widths.pop();
                narrows.pop();
                take(DEDENT, DEDENT, 0);
            }
            if (widths.last() != width) {
                refusal.refuse(STEP, place);
            }
            if (narrows.last() != narrow) {
                refusal.refuse(TABS, place);
            }
        }

        private void beginBlock(int width, int narrow) {
            if (narrow <= narrows.last()) {
                refusal.refuse(TABS, place);
            }
            if (!widths.push(width) || !narrows.push(narrow)) {
                refusal.refuse(DEEP, place);
            }
            take(INDENT, INDENT, 0);
        }

        /** Takes the token that begins at the place, and goes on behind it. */
        private void take(int kind, int mark, int extent) {
            if (!tokens.add(kind, mark, place, extent)) {
                refusal.refuse(ROOM, place);
            }
            place += extent;
        }

        private void takeNext() {
            char c = text.at(place);
            if (isBlank(c)) {
                place++;
            } else if (c == '#') {
                passToEndOfLine();
            } else if (c == '\\' && text.at(place + 1) == END_OF_LINE) {
                place += 2;
            } else if (c == END_OF_LINE) {
                takeEndOfLine();
            } else if (beginsName(c)) {
                takeName();
            } else if (isDigit(c)) {
                takeNumber();
            } else if (c == '\'' || c == '"') {
                takeString(c);
            } else {
                takeSign(c);
            }
        }

        private void takeEndOfLine() {
            if (brackets.size > 0) {
                place++;
                return;
            }
            take(NEWLINE, NEWLINE, 1);
            inLine = false;
        }

        private void takeName() {
            int end = place + 1;
            while (end < text.size && (beginsName(text.at(end)) || isDigit(text.at(end)))) {
                end++;
            }
            int mark = markOfName(place, end - place);
            take(mark == NAME ? NAME : WORD, mark, end - place);
        }

        private int markOfName(int first, int extent) {
            if (text.reads("if", first, extent)) {
                return WORD_IF;
            }
            if (text.reads("elif", first, extent)) {
                return WORD_ELIF;
            }
            if (text.reads("else", first, extent)) {
                return WORD_ELSE;
            }
            if (text.reads("while", first, extent)) {
                return WORD_WHILE;
            }
            if (text.reads("def", first, extent)) {
                return WORD_DEF;
            }
            if (text.reads("return", first, extent)) {
                return WORD_RETURN;
            }
            if (text.reads("pass", first, extent)) {
                return WORD_PASS;
            }
            if (text.reads("break", first, extent)) {
                return WORD_BREAK;
            }
            if (text.reads("and", first, extent)) {
                return WORD_AND;
            }
            if (text.reads("or", first, extent)) {
                return WORD_OR;
            }
            return text.reads("not", first, extent) ? WORD_NOT : NAME;
        }

        private void takeNumber() {
            int end = place + 1;
            while (end < text.size && isDigit(text.at(end))) {
                end++;
            }
            if (beginsName(text.at(end))) {
                refusal.refuse(FIGURE, place);
            }
            take(NUMBER, NUMBER, end - place);
        }

        private void takeString(char quote) {
            int end = place + 1;
            for (; end < text.size && text.at(end) != quote; end++) {
                if (text.at(end) == '\\') {
                    end++;
                }
                if (text.at(end) == END_OF_LINE) {
                    refusal.refuse(QUOTE, place);
                }
            }
            if (end >= text.size) {
                refusal.refuse(QUOTE, place);
            }
            take(STRING, STRING, end + 1 - place);
        }

        private void takeSign(char c) {
            if (PAIR_BEGINNINGS.indexOf(c) >= 0 && text.at(place + 1) == '=') {
                take(SIGN, c + PAIR, 2);
                return;
            }
            if (SINGLE_SIGNS.indexOf(c) < 0) {
                refusal.refuse(CHARACTER, place);
            }
            if (c == '(' || c == '[') {
                openBracket();
            }
            if (c == ')' || c == ']') {
                closeBracket(c);
            }
            take(SIGN, c, 1);
        }

        private void openBracket() {
            if (!brackets.push(place)) {
                refusal.refuse(DEEP, place);
            }
        }

        private void closeBracket(char c) {
            char fitting = c == ')' ? '(' : '[';
            if (brackets.size == 0 || text.at(brackets.last()) != fitting) {
                refusal.refuse(BRACKET, place);
            }
            brackets.pop();
        }

        private void finish() {
            if (brackets.size > 0) {
                refusal.refuse(BRACKET, brackets.last());
            }
            if (inLine) {
                take(NEWLINE, NEWLINE, 0);
            }
            for (int i = 1; i < widths.size; i++) {
                take(DEDENT, DEDENT, 0);
            }
            take(END, END, 0);
        }
    }

    /** The nodes, first in the order in which they were made, then numbered from the whole on. */
    private static final class Tree {
        private final int[] kinds = new int[MOST_NODES];
        private final int[] tokens = new int[MOST_NODES];
        private final int[] heights = new int[MOST_NODES];
        private final int[] parts = new int[MOST_NODES];
        private final int[] firsts = new int[MOST_NODES];
        private final int[] lasts = new int[MOST_NODES];
        private final int[] nexts = new int[MOST_NODES];
        private final int[] parents = new int[MOST_NODES];
        private final int[] order = new int[MOST_NODES];
        private int size = 0;

        int add(int kind, int token) {
            if (size < 0 || size >= MOST_NODES) {
                return NONE;
            }
            int made = size;
            size++;
            kinds[made] = kind;
            tokens[made] = token;
            heights[made] = 1;
            parts[made] = 0;
            firsts[made] = NONE;
            lasts[made] = NONE;
            nexts[made] = NONE;
            parents[made] = NONE;
            return made;
        }

        void append(int whole, int part) {
            if (!has(whole) || !has(part)) {
                return;
            }
            int last = lasts[whole];
            if (has(last)) {
                nexts[last] = part;
            } else {
                firsts[whole] = part;
            }
            lasts[whole] = part;
            parents[part] = whole;
            parts[whole]++;
            heights[whole] = Math.max(heights[whole], heights[part] + 1);
        }

        void setToken(int made, int token) {
            if (has(made)) {
                tokens[made] = token;
            }
        }

        private boolean has(int made) {
            return made >= 0 && made < size;
        }

        int kindOf(int made) {
            return made >= 0 && made < size ? kinds[made] : NONE;
        }

        int tokenOf(int made) {
            return made >= 0 && made < size ? tokens[made] : NONE;
        }

        int heightOf(int made) {
            return made >= 0 && made < size ? heights[made] : 0;
        }

        int partsOf(int made) {
            return made >= 0 && made < size ? parts[made] : 0;
        }

        int firstOf(int made) {
            return made >= 0 && made < size ? firsts[made] : NONE;
        }

        int nextOf(int made) {
            return made >= 0 && made < size ? nexts[made] : NONE;
        }

        int numbered(int k) {
            return k >= 0 && k < size ? order[k] : NONE;
        }

        /** Numbers the nodes, each before its parts; the whole is the one that was made first. */
        void number() {
            int made = 0;
            for (int k = 0; k < size && has(made); k++) {
                order[k] = made;
                made = has(firsts[made]) ? firsts[made] : behind(made);
            }
        }

        /** The node that follows a node and all its parts. */
        private int behind(int made) {
            int above = made;
            for (int i = 0; i < MOST_NODES && has(above) && !has(nexts[above]); i++) {
                above = parents[above];
            }
            return nextOf(above);
        }
    }

    /** Reads the tokens into the tree. */
    private static final class Parser {
        private final Tokens tokens;
        private final Tree tree;
        private final Refusal refusal;
        private int next = 0;

        Parser(Tokens tokens, Tree tree, Refusal refusal) {
            this.tokens = tokens;
            this.tree = tree;
            this.refusal = refusal;
        }

        /** Whether the tokens could be read; if not, the text is refused. */
        boolean parse() {
            next = 0;
            tree.size = 0;
            try {
                statements(END, 0);
            } catch (IllegalStateException refused) {
                return false;
            }
            tree.number();
            return true;
        }

        private boolean isAt(int mark) {
            return tokens.markAt(next) == mark;
        }

        private int advance() {
            next++;
            return next - 1;
        }

        private int expect(int mark) {
            if (tokens.markAt(next) != mark) {
                refusal.refuse(GRAMMAR, tokens.placeAt(next));
            }
            return advance();
        }

        /** A block of the statements ahead of a closing token, and that token. */
        private int statements(int closing, int depth) {
            if (depth >= MOST_WIDTHS) {
                refusal.refuse(DEEP, tokens.placeAt(next));
            }
            int block = tree.add(NODE_BLOCK, next);
            for (int i = 0; i < MOST_TOKENS && !isAt(closing); i++) {
                statement(block, depth);
            }
            expect(closing);
            return block;
        }

        private void statement(int block, int depth) {
            switch (tokens.markAt(next)) {
                case WORD_IF:
                    addStatement(block, branches(depth));
                    break;
                case WORD_WHILE:
                    addStatement(block, conditional(NODE_WHILE, depth));
                    break;
                case WORD_DEF:
                    addStatement(block, definition(depth));
                    break;
                default:
                    line(block);
            }
        }

        private void addStatement(int block, int statement) {
            if (tree.partsOf(block) == 0) {
                tree.setToken(block, tree.tokenOf(statement));
            }
            tree.append(block, statement);
        }

        private int branches(int depth) {
            int first = conditional(NODE_IF, depth);
            int last = first;
            for (int i = 0; i < MOST_TOKENS && isAt(WORD_ELIF); i++) {
                int branch = conditional(NODE_IF, depth);
                tree.append(last, branch);
                last = branch;
            }
            if (isAt(WORD_ELSE)) {
                advance();
                expect(':');
                tree.append(last, block(depth));
            }
            return first;
        }

        private int conditional(int kind, int depth) {
            int made = tree.add(kind, advance());
            tree.append(made, tier(BINDS_OR, 0));
            expect(':');
            tree.append(made, block(depth));
            return made;
        }

        private int definition(int depth) {
            advance();
            int made = tree.add(NODE_DEF, expect(NAME));
            expect('(');
            if (!isAt(')')) {
                tree.append(made, tree.add(NODE_PARAMETER, expect(NAME)));
                for (int i = 0; i < MOST_TOKENS && isAt(','); i++) {
                    advance();
                    tree.append(made, tree.add(NODE_PARAMETER, expect(NAME)));
                }
            }
            expect(')');
            expect(':');
            tree.append(made, block(depth));
            return made;
        }

        private int block(int depth) {
            if (isAt(NEWLINE)) {
                advance();
                expect(INDENT);
                return statements(DEDENT, depth + 1);
            }
            int block = tree.add(NODE_BLOCK, next);
            line(block);
            return block;
        }

        private void line(int block) {
            small(block);
            for (int i = 0; i < MOST_TOKENS && isAt(';'); i++) {
                advance();
                if (isAt(NEWLINE)) {
                    break;
                }
                small(block);
            }
            expect(NEWLINE);
        }

        private void small(int block) {
            int mark = tokens.markAt(next);
            int made;
            if (mark == WORD_PASS || mark == WORD_BREAK) {
                made = tree.add(mark == WORD_PASS ? NODE_PASS : NODE_BREAK, advance());
            } else if (mark == WORD_RETURN) {
                made = tree.add(NODE_RETURN, advance());
                if (!isAt(NEWLINE) && !isAt(';')) {
                    tree.append(made, tier(BINDS_OR, 0));
                }
            } else if (mark == NAME && tokens.markAt(next + 1) == '=') {
                made = tree.add(NODE_SET, advance());
                expect('=');
                tree.append(made, tier(BINDS_OR, 0));
            } else {
                int value = tier(BINDS_OR, 0);
                made = tree.add(NODE_VALUE, tree.tokenOf(value));
                tree.append(made, value);
            }
            addStatement(block, made);
        }

        /** An expression of the grammar's rule for a strength, where so many are open. */
        private int tier(int strength, int open) {
            if (strength == BINDS_NOT || strength == BINDS_MINUS) {
                return prefixed(strength, open);
            }
            if (strength >= BINDS_MOST) {
                return part(open);
            }
            int left = tier(strength + 1, open);
            int most = strength == BINDS_COMPARE ? 1 : MOST_TOKENS;
            for (int i = 0; i < most && strengthBetween(tokens.markAt(next)) == strength; i++) {
                int sign = advance();
                int right = tier(strength + 1, opened(open, sign));
                int made = tree.add(kindBetween(strength), sign);
                tree.append(made, left);
                tree.append(made, right);
                left = made;
                checkHeight(left);
            }
            return left;
        }

        private int prefixed(int strength, int open) {
            if (!isAt(strength == BINDS_NOT ? WORD_NOT : '-')) {
                return tier(strength + 1, open);
            }
            int sign = advance();
            int operand = prefixed(strength, opened(open, sign));
            int made = tree.add(strength == BINDS_NOT ? NODE_NOT : NODE_MINUS, sign);
            tree.append(made, operand);
            checkHeight(made);
            return made;
        }

        private int part(int open) {
            int left = atom(open);
            for (int i = 0; i < MOST_TOKENS && (isAt('(') || isAt('[') || isAt('.')); i++) {
                int made;
                if (isAt('.')) {
                    advance();
                    made = tree.add(NODE_MEMBER, expect(NAME));
                    tree.append(made, left);
                } else {
                    made = isAt('(') ? call(left, open) : index(left, open);
                }
                left = made;
                checkHeight(left);
            }
            return left;
        }

        private int call(int left, int open) {
            int sign = advance();
            int made = tree.add(NODE_CALL, sign);
            tree.append(made, left);
            addExpressions(made, ')', opened(open, sign));
            return made;
        }

        private int index(int left, int open) {
            int sign = advance();
            int made = tree.add(NODE_INDEX, sign);
            tree.append(made, left);
            tree.append(made, tier(BINDS_OR, opened(open, sign)));
            expect(']');
            return made;
        }

        private void addExpressions(int made, int closing, int open) {
            if (!isAt(closing)) {
                tree.append(made, tier(BINDS_OR, open));
                for (int i = 0; i < MOST_TOKENS && isAt(','); i++) {
                    advance();
                    tree.append(made, tier(BINDS_OR, open));
                }
            }
            expect(closing);
        }

        private int atom(int open) {
            switch (tokens.markAt(next)) {
                case NAME:
                    return tree.add(NODE_NAME, advance());
                case NUMBER:
                    return tree.add(NODE_NUMBER, advance());
                case STRING:
                    return tree.add(NODE_STRING, advance());
                case '(':
                    return bracketed(open);
                case '[':
                    return list(open);
                default:
                    refusal.refuse(GRAMMAR, tokens.placeAt(next));
                    return NONE;
            }
        }

        private int bracketed(int open) {
            int inner = tier(BINDS_OR, opened(open, advance()));
            expect(')');
            return inner;
        }

        private int list(int open) {
            int sign = advance();
            int made = tree.add(NODE_LIST, sign);
            addExpressions(made, ']', opened(open, sign));
            checkHeight(made);
            return made;
        }

        /** How many are open behind a token that opens one more. */
        private int opened(int open, int token) {
            if (open >= MOST_OPEN) {
                refusal.refuse(DEEP, tokens.placeAt(token));
            }
            return open + 1;
        }

        private void checkHeight(int made) {
            if (tree.heightOf(made) > MOST_HEIGHT) {
                refusal.refuse(DEEP, tokens.placeAt(tree.tokenOf(made)));
            }
        }
    }

    /** Writes the tree out. */
    private static final class Writer {
        private final Text text;
        private final Tokens tokens;
        private final Tree tree;
        private final char[] written = new char[MOST_WRITTEN];
        private int size = 0;

        Writer(Text text, Tokens tokens, Tree tree) {
            this.text = text;
            this.tokens = tokens;
            this.tree = tree;
        }

        char writtenAt(int place) {
            return place >= 0 && place < size && place < written.length ? written[place] : 0;
        }

        void writeWhole() {
            size = 0;
            writeBlock(0, 0);
        }

        private void put(char c) {
            if (size >= 0 && size < written.length) {
                written[size] = c;
                size++;
            }
        }

        private void putWord(String word) {
            for (int i = 0; i < word.length(); i++) {
                put(word.charAt(i));
            }
        }

        private void putTokenOf(int made) {
            int token = tree.tokenOf(made);
            int first = tokens.placeAt(token);
            int extent = tokens.extentAt(token);
            for (int i = 0; i < extent; i++) {
                put(text.at(first + i));
            }
        }

        private void beginLine(int depth) {
            for (int i = 0; i < depth; i++) {
                putWord("  ");
            }
        }

        /** Writes a block's statements; the depth is that of the blocks around them but the whole. */
        private void writeBlock(int block, int depth) {
            if (depth > MOST_WIDTHS) {
                return;
            }
            int part = tree.firstOf(block);
            for (int i = 0; i < MOST_NODES && part != NONE; i++) {
                writeStatement(part, depth);
                part = tree.nextOf(part);
            }
        }

        private void writeStatement(int statement, int depth) {
            beginLine(depth);
            switch (tree.kindOf(statement)) {
                case NODE_IF:
                    writeBranches(statement, depth);
                    break;
                case NODE_WHILE:
                    writeConditional(statement, depth);
                    break;
                case NODE_DEF:
                    writeDefinition(statement, depth);
                    break;
                default:
                    writeSmall(statement);
            }
        }

        private void writeBranches(int statement, int depth) {
            int rest = writeConditional(statement, depth);
            for (int i = 0; i < MOST_NODES && rest != NONE; i++) {
                beginLine(depth);
                if (tree.kindOf(rest) == NODE_IF) {
                    rest = writeConditional(rest, depth);
                } else {
                    putWord("else:\n");
                    writeBlock(rest, depth + 1);
                    rest = NONE;
                }
            }
        }

        /** Writes what hangs on a condition; answers the part behind it, or NONE. */
        private int writeConditional(int statement, int depth) {
            int condition = tree.firstOf(statement);
            int block = tree.nextOf(condition);
            putTokenOf(statement);
            put(' ');
            writeExpression(condition, 1);
            putWord(":\n");
            writeBlock(block, depth + 1);
            return tree.nextOf(block);
        }

        private void writeDefinition(int statement, int depth) {
            putWord("def ");
            putTokenOf(statement);
            put('(');
            int part = tree.firstOf(statement);
            for (int i = 0; i < MOST_NODES && tree.kindOf(part) == NODE_PARAMETER; i++) {
                if (i > 0) {
                    putWord(", ");
                }
                putTokenOf(part);
                part = tree.nextOf(part);
            }
            putWord("):\n");
            writeBlock(part, depth + 1);
        }

        private void writeSmall(int statement) {
            int kind = tree.kindOf(statement);
            int part = tree.firstOf(statement);
            if (kind != NODE_VALUE) {
                putTokenOf(statement);
            }
            if (kind == NODE_SET) {
                putWord(" = ");
            }
            if (kind == NODE_RETURN && part != NONE) {
                put(' ');
            }
            if (part != NONE) {
                writeExpression(part, 1);
            }
            put(END_OF_LINE);
        }

        /** Writes an expression that lies so many levels deep in its statement. */
        private void writeExpression(int made, int level) {
            if (level > MOST_HEIGHT) {
                return;
            }
            int first = tree.firstOf(made);
            switch (tree.kindOf(made)) {
                case NODE_OR:
                case NODE_AND:
                case NODE_COMPARE:
                case NODE_SUM:
                    writePart(made, first, level);
                    put(' ');
                    putTokenOf(made);
                    put(' ');
                    writePart(made, tree.nextOf(first), level);
                    break;
                case NODE_NOT:
                    putWord("not ");
                    writePart(made, first, level);
                    break;
                case NODE_MINUS:
                    put('-');
                    writePart(made, first, level);
                    break;
                case NODE_CALL:
                    writePart(made, first, level);
                    writeExpressions('(', tree.nextOf(first), ')', level);
                    break;
                case NODE_INDEX:
                    writePart(made, first, level);
                    writeExpressions('[', tree.nextOf(first), ']', level);
                    break;
                case NODE_MEMBER:
                    writePart(made, first, level);
                    put('.');
                    putTokenOf(made);
                    break;
                case NODE_LIST:
                    writeExpressions('[', first, ']', level);
                    break;
                default:
                    putTokenOf(made);
            }
        }

        private void writeExpressions(char opening, int first, char closing, int level) {
            put(opening);
            int part = first;
            for (int i = 0; i < MOST_NODES && part != NONE; i++) {
                if (i > 0) {
                    putWord(", ");
                }
                writeExpression(part, level + 1);
                part = tree.nextOf(part);
            }
            put(closing);
        }

        private void writePart(int whole, int part, int level) {
            boolean inBrackets = needsBrackets(whole, part);
            if (inBrackets) {
                put('(');
            }
            writeExpression(part, level + 1);
            if (inBrackets) {
                put(')');
            }
        }

        private boolean needsBrackets(int whole, int part) {
            int outer = strengthOf(whole);
            int inner = strengthOf(part);
            if (inner == BINDS_MOST || inner > outer) {
                return false;
            }
            if (inner < outer || inner == BINDS_COMPARE) {
                return true;
            }
            // Of equal strength only the second of two would be read otherwise without brackets.
            return tree.firstOf(whole) != part;
        }

        private int strengthOf(int made) {
            switch (tree.kindOf(made)) {
                case NODE_OR:
                case NODE_AND:
                case NODE_COMPARE:
                case NODE_SUM:
                    return strengthBetween(tokens.markAt(tree.tokenOf(made)));
                case NODE_NOT:
                    return BINDS_NOT;
                case NODE_MINUS:
                    return BINDS_MINUS;
                default:
                    return BINDS_MOST;
            }
        }
    }
}
