import java.util.NoSuchElementException;
import java.util.function.Supplier;

/** What the tests share: typing texts, asking an object for all it has read, and counting faults. */
final class Check {
    private static int asked = 0;
    private static int wrong = 0;

    private Check() {
    }

    static void same(String what, Object got, Object due) {
        asked++;
        if (!due.equals(got)) {
            wrong++;
            System.out.println(what + " answered " + got + ", due is " + due);
        }
    }

    static void finish() {
        System.out.println(asked + " answers, " + wrong + " not as due");
        if (wrong != 0 || asked == 0) {
            System.exit(1);
        }
    }

    /** Types a text in calls of up to eight characters. */
    static void type(Front front, String text) {
        for (int at = 0; at < text.length(); at += 8) {
            int n = Math.min(8, text.length() - at);
            long characters = 0;
            for (int i = 0; i < n; i++) {
                characters |= (long) text.charAt(at + i) << (8 * i);
            }
            front.type(characters, n);
        }
    }

    static Front typed(String text) {
        Front front = new Front();
        type(front, text);
        return front;
    }

    /** What read() answers, or -1 when it refuses the text. */
    static int read(Front front) {
        try {
            return front.read();
        } catch (UnsupportedOperationException refused) {
            return -1;
        }
    }

    static Front accepted(String text) {
        Front front = typed(text);
        boolean isRead = read(front) >= 0;
        same(show(text) + " why, where", front.why() + ", " + front.where(), "0, -1");
        same(show(text) + " is read", isRead, true);
        return front;
    }

    static void refused(String text, int why, int where) {
        Front front = typed(text);
        same(show(text) + " read()", read(front), -1);
        same(show(text) + " why, where", front.why() + ", " + front.where(), why + ", " + where);
        same(show(text) + " leaves nothing read", all(front), all(new Front()));
    }

    /** What a call answers, or throws. and the very class that it throws. */
    static String answer(Supplier<?> call) {
        try {
            return String.valueOf(call.get());
        } catch (RuntimeException thrown) {
            return "throws." + thrown.getClass().getSimpleName();
        }
    }

    static String type(Front front, long characters, int n) {
        return answer(() -> front.type(characters, n));
    }

    /** Each token as kind@place+length. */
    static String tokens(Front front) {
        StringBuilder row = new StringBuilder();
        for (int k = 0; hasToken(front, k); k++) {
            row.append(k == 0 ? "" : " ").append(front.token(k, 0));
            row.append('@').append(front.token(k, 1)).append('+').append(front.token(k, 2));
        }
        return row.toString();
    }

    static boolean hasToken(Front front, int k) {
        try {
            front.token(k, 0);
            return true;
        } catch (NoSuchElementException none) {
            return false;
        }
    }

    /** The kinds of the tokens alone. */
    static String kinds(Front front) {
        StringBuilder row = new StringBuilder();
        for (int k = 0; hasToken(front, k); k++) {
            row.append(front.token(k, 0));
        }
        return row.toString();
    }

    /** The tree: each node as kind@token, its parts in brackets behind it. */
    static String tree(Front front) {
        StringBuilder row = new StringBuilder();
        int end = front.nodes() == 0 ? 0 : addNode(front, 0, row);
        same("nodes() of " + row, front.nodes(), end);
        return row.toString();
    }

    private static int addNode(Front front, int k, StringBuilder row) {
        row.append(front.node(k, 0)).append('@').append(front.node(k, 1));
        int parts = front.node(k, 2);
        int next = k + 1;
        for (int i = 0; i < parts; i++) {
            row.append(i == 0 ? '(' : ' ');
            next = addNode(front, next, row);
        }
        row.append(parts == 0 ? "" : ")");
        return next;
    }

    /** The tree without the numbers of its tokens. */
    static String shape(Front front) {
        return tree(front).replaceAll("@\\d+", "");
    }

    static String output(Front front) {
        StringBuilder row = new StringBuilder();
        for (int place = 0; place < front.length(); place++) {
            row.append(front.output(place));
        }
        return row.toString();
    }

    /** All that was read. */
    static String all(Front front) {
        return tokens(front) + "|" + tree(front) + "|" + output(front);
    }

    /** All but the text: what was read, and why and where the latest read() refused. */
    static String state(Front front) {
        return all(front) + "|" + front.why() + "@" + front.where();
    }

    static String times(String part, int n) {
        return part.repeat(n);
    }

    static String show(String text) {
        return "'" + text.replace("\n", "|").replace("\t", "~") + "'";
    }
}
