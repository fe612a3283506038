/**
 * Makes the bytes 9 .. 64 of an image seen as they are: in the model that is loaded for it they are the
 * meanings of the tokens 0 .. 6, and the sums are each of their numbers in turn times 32 or -32.
 */
final class Window {
    static final int FROM = 9;
    static final int TO = 64;

    private static final int WIDTH = 8;
    private static final int PLACES = 73;
    private static final int LAST = 425;
    private static final int LENGTH = 433;
    /** The bytes 0 .. 7, then 1 .. 8, of one layer, one head, width 8, INNER 4, CONTEXT 2, STOP 7, SHIFT 1. */
    private static final byte[] BEGINNING = {77, 1, 1, WIDTH, 4, 2, 0, 7, 1};
    /** Their NORM is 32 and -32: the mean is 0, the root is 1. */
    private static final byte[] PLACE = {1, -1, 1, -1, 1, -1, 1, -1};

    private Window() {
    }

    /** Writes over all bytes up to 432 but those that are seen, and over the prompt; makes 138 calls. */
    static int[] of(CachedSpeaker x) {
        x.put(0, Draft.eight(BEGINNING, 0));
        x.put(1, Draft.eight(BEGINNING, 1));
        for (int at = TO + 1; at < LENGTH; at += 8) {
            x.put(at, 0);
        }
        x.put(PLACES, Draft.eight(PLACE, 0));
        x.size(LENGTH);
        x.erase();
        x.type(7);
        int[] seen = new int[TO + 1];
        for (int k = 0; k < WIDTH; k++) {
            lookAt(x, k, seen);
        }
        return seen;
    }

    /** Number k of the row of each token; LAST lets none but this one through. */
    private static void lookAt(CachedSpeaker x, int k, int[] seen) {
        x.put(LAST, 64L << (8 * k));
        if (x.load() != 0 || x.begin() != 1) {
            throw new AssertionError("the window's model does not stand");
        }
        for (int t = 0; t < 7; t++) {
            int sum = x.sum(t);
            if (sum % 32 != 0) {
                throw new AssertionError("sum(" + t + ") is " + sum + ", no multiple of 32");
            }
            seen[FROM + t * WIDTH + k] = PLACE[k] * sum / 32;
        }
    }
}
