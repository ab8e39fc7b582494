import java.util.NoSuchElementException;
import java.util.Random;

/** Any calls with any arguments: nothing is thrown but what the document names, and all fits. */
public final class AnyCallsTest {
    private static final String OFTEN = "a1(' \n\t)[]:=;.,+-*<!\"\\#ifelsornot";
    private static final int[] NUMBERS = {0, 1, 2, 3, -1, 4, 7, 119, 120, 121, 359, 360, 599, 600,
        3119, 3120, Integer.MAX_VALUE, Integer.MIN_VALUE};

    private AnyCallsTest() {
    }

    public static void main(String[] arguments) {
        Random random = new Random(11);
        for (int run = 0; run < 3000; run++) {
            Front front = new Front();
            String made = "";
            for (int call = 0; call < 300 && made.isEmpty(); call++) {
                made = anyCall(front, random);
            }
            Check.same("run " + run, made, "");
        }
        Check.finish();
    }

    /** Makes a call; answers what is wrong with it, or nothing. */
    private static String anyCall(Front front, Random random) {
        int which = random.nextInt(20);
        try {
            if (which < 12) {
                front.type(characters(random), random.nextInt(30) == 0 ? number(random) : 1 + which % 8);
            } else if (which == 12) {
                front.token(number(random), number(random));
            } else if (which == 13) {
                front.node(number(random), number(random));
            } else if (which == 14) {
                front.output(number(random));
            } else if (which == 15 && random.nextInt(4) == 0) {
                front.clear();
            } else if (which > 15) {
                return readAnswer(front);
            }
            return "";
        } catch (IllegalArgumentException | IllegalStateException typed) {
            return which < 12 ? "" : which + " throws " + typed;
        } catch (NoSuchElementException none) {
            return which >= 12 && which <= 14 ? "" : which + " throws " + none;
        } catch (RuntimeException other) {
            return which + " throws " + other;
        }
    }

    private static int number(Random random) {
        return NUMBERS[random.nextInt(NUMBERS.length)];
    }

    private static long characters(Random random) {
        if (random.nextInt(40) == 0) {
            return random.nextLong();
        }
        long all = 0;
        for (int i = 0; i < 8; i++) {
            boolean isOften = random.nextInt(12) > 0;
            int c = isOften ? OFTEN.charAt(random.nextInt(OFTEN.length())) : 32 + random.nextInt(95);
            all |= (long) c << (8 * i);
        }
        return all;
    }

    private static String readAnswer(Front front) {
        int tokens;
        try {
            tokens = front.read();
        } catch (UnsupportedOperationException refused) {
            boolean isTold = front.why() >= 1 && front.why() <= 9 && front.where() >= 0;
            boolean isEmpty = front.nodes() == 0 && front.length() == 0 && !Check.hasToken(front, 0);
            return isTold && isEmpty ? "" : "refusal " + front.why() + " at " + front.where();
        }
        int parts = 1;
        for (int k = 0; k < front.nodes(); k++) {
            parts += front.node(k, 2);
        }
        boolean isWhole = parts == front.nodes() && front.node(0, 0) == 9 && front.token(tokens - 1, 0) == 9;
        boolean isSilent = front.why() == 0 && front.where() == -1;
        return isWhole && isSilent && !Check.hasToken(front, tokens) ? "" : "what was read does not fit";
    }
}
