import java.util.ArrayList;
import java.util.List;

/**
 * A BlockFront that is asked no more than the document allows: what its object answers behind the
 * 512th call is free, so the calls that may change it are then made again on a new object.
 */
final class Front {
    private static final int MOST_CALLS = 512;
    private static final int TYPE = 0;
    private static final int CLEAR = 1;
    private static final int READ = 2;

    private final List<long[]> changes = new ArrayList<>();
    private BlockFront object = new BlockFront();
    private int calls = 0;

    int type(long characters, int n) {
        BlockFront used = oneCallMore();
        changes.add(new long[] {TYPE, characters, n});
        return used.type(characters, n);
    }

    int clear() {
        BlockFront used = oneCallMore();
        changes.add(new long[] {CLEAR});
        return used.clear();
    }

    int read() {
        BlockFront used = oneCallMore();
        changes.add(new long[] {READ});
        return used.read();
    }

    int why() {
        return oneCallMore().why();
    }

    int where() {
        return oneCallMore().where();
    }

    int token(int k, int what) {
        return oneCallMore().token(k, what);
    }

    int nodes() {
        return oneCallMore().nodes();
    }

    int node(int k, int what) {
        return oneCallMore().node(k, what);
    }

    int length() {
        return oneCallMore().length();
    }

    char output(int place) {
        return oneCallMore().output(place);
    }

    private BlockFront oneCallMore() {
        if (calls >= MOST_CALLS) {
            object = new BlockFront();
            calls = 0;
            for (long[] change : changes) {
                makeAgain(change);
            }
        }
        calls++;
        if (calls > MOST_CALLS) {
            throw new AssertionError("this test needs more calls than the document allows");
        }
        return object;
    }

    private void makeAgain(long[] change) {
        calls++;
        try {
            if (change[0] == TYPE) {
                object.type(change[1], (int) change[2]);
            } else if (change[0] == CLEAR) {
                object.clear();
            } else {
                object.read();
            }
        } catch (IllegalArgumentException | IllegalStateException | UnsupportedOperationException same) {
            // It was refused the first time, too, and the test has seen that.
            return;
        }
    }
}
