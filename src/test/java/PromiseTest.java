/** The promises 1 to 18, one part each, with answers that were worked out by hand from the document. */
public final class PromiseTest {
    private static final Class<IllegalStateException> STATE = IllegalStateException.class;
    private static final Class<IllegalArgumentException> ARGUMENT = IllegalArgumentException.class;
    private static final Check CHECK = new Check("PromiseTest");

    public static void main(String[] args) {
        newObject();
        put();
        fill();
        size();
        load();
        loadKeepsAndDrops();
        type();
        erase();
        tokens();
        token();
        spell();
        begin();
        next();
        go();
        output();
        taken();
        running();
        sum();
        attention();
        mixing();
        kept();
        CHECK.end();
    }

    private static void same(String what, long got, long due) {
        CHECK.same(what, got, due);
    }

    private static void same(String what, boolean got, boolean due) {
        CHECK.same(what, got, due);
    }

    private static void none(String what, long got) {
        CHECK.none(what, got);
    }

    /**
     * The layers change nothing, so the meaning of a token is what y is made of: for token 0 it is
     * (58, -59, 58, -59), and 2 is the least of the two tokens with the greatest sum.
     */
    private static Draft plain(int context, int stop, int[]... pairs) {
        Draft draft = Draft.small(context, stop, 1, pairs);
        Draft.set(draft.meanings[0], 10, -10, 10, -10);
        Draft.set(draft.meanings[2], 40, -40, 40, -40);
        Draft.set(draft.meanings[3], 40, -40, 40, -40);
        Draft.set(draft.meanings[4], -128, 0, 0, 0);
        Draft.set(draft.meanings[5], 127, 0, 0, 0);
        Draft.even(draft.last, 64);
        return draft;
    }

    private static void newObject() {
        CHECK.part("promise 1");
        CachedSpeaker x = new CachedSpeaker();
        none("tokens()", x.tokens());
        none("token(0)", x.token(0));
        none("spell(0, 0)", x.spell(0, 0));
        none("output(0)", x.output(0));
        none("sum(0)", x.sum(0));
        none("kept(0, 0, 0, 0)", x.kept(0, 0, 0, 0));
        same("taken()", x.taken(), 0);
        same("running()", x.running(), false);
        same("load() with length 0", x.load(), -11);
        x.size(1500);
        same("load() with bytes of 0", x.load(), -1);
        // All bytes are 0 but the beginning's, so all sums are 0.
        Draft.write(x, java.util.Arrays.copyOf(Draft.small(2, 0, 1).bytes(), 9));
        x.size(Draft.small(2, 0, 1).bytes().length);
        same("load() of a beginning alone", x.load(), 0);
        same("tokens() without a symbol", x.tokens(), 0);
        x.type(3);
        x.begin();
        for (int t = 0; t < 8; t++) {
            same("sum(" + t + ") with numbers of 0", x.sum(t), 0);
        }
        CachedSpeaker other = new CachedSpeaker();
        none("tokens() of another object", other.tokens());
    }

    private static void put() {
        CHECK.part("promise 2");
        CachedSpeaker x = new CachedSpeaker();
        for (int i : new int[] {-1, -8, 1493, 1500, Integer.MIN_VALUE, Integer.MAX_VALUE}) {
            same("put(" + i + ", -1)", x.put(i, -1), false);
        }
        same("put(0, ..)", x.put(0, 0), true);
        same("put(1492, ..)", x.put(1492, -1), true);

        x = plain(4, 7).speaker(0);
        // Token 1's meaning is bytes 13 .. 16 and token 2's 17 .. 20: the lowest bits go first.
        same("put(13, ..)", x.put(13, 0x00807F000000FF01L), true);
        same("load()", x.load(), 0);
        x.begin();
        same("sum(1) after bytes 1, -1, 0, 0", x.sum(1), 58 + 59);
        same("sum(2) after bytes 0, 127, -128, 0", x.sum(2), 127 * -59 - 128 * 58);
        same("sum(3), one behind the eight", x.sum(3), 9360);
        same("sum(0), one before the eight", x.sum(0), 2340);

        // The length does not follow the bytes.
        x = new CachedSpeaker();
        x.put(0, 77);
        x.put(1492, 1);
        same("load() after put alone", x.load(), -11);
    }

    private static void fill() {
        CHECK.part("promise 3");
        CachedSpeaker x = new CachedSpeaker();
        int[][] wrong = {{-1, 1}, {1500, 1}, {0, 0}, {0, -1}, {0, 1501}, {1, 1500}, {1499, 2}, {1500, 0},
            {Integer.MAX_VALUE, 1}, {Integer.MAX_VALUE, Integer.MAX_VALUE}, {1, Integer.MAX_VALUE},
            {Integer.MIN_VALUE, 1}, {5, Integer.MIN_VALUE}};
        for (int[] w : wrong) {
            same("fill(" + w[0] + ", " + w[1] + ", 1)", x.fill(w[0], w[1], 1), false);
        }
        x.size(9);
        same("load() after fills that were refused", x.load(), -1);
        same("fill(0, 1500, 1)", x.fill(0, 1500, 1), true);
        same("fill(1499, 1, 1)", x.fill(1499, 1, 1), true);
        same("fill(0, 1, 1)", x.fill(0, 1, 1), true);

        x = plain(4, 7).speaker(0);
        // Byte 13 by seed 0: b = 102947, b ^ 12 = 102959, a = 102959 * 40503 = 4170148377, 53 - 32.
        same("fill(13, 1, 0)", x.fill(13, 1, 0), true);
        x.load();
        x.begin();
        same("sum(1) with byte 13 by seed 0", x.sum(1), 58 * 21);
        same("sum(0), before", x.sum(0), 2340);
        same("sum(2), behind", x.sum(2), 9360);

        // The number of the byte counts from the image's beginning, not from i; and seeds may be below 0.
        int[] bytes = {formula(13, -5), formula(14, -5), formula(15, -5), formula(16, -5)};
        int due = 58 * bytes[0] - 59 * bytes[1] + 58 * bytes[2] - 59 * bytes[3];
        x.fill(13, 4, -5);
        x.load();
        x.begin();
        same("sum(1) after one fill", x.sum(1), due);
        x.fill(13, 4, 9);
        x.fill(13, 2, -5);
        x.fill(15, 2, -5);
        x.load();
        x.begin();
        same("sum(1) after two fills", x.sum(1), due);
    }

    private static int formula(int number, int seed) {
        int b = seed * 1000003 + number * 7919;
        int a = (b ^ (b >>> 13)) * 40503;
        return ((a >>> 9) & 63) - 32;
    }

    private static void size() {
        CHECK.part("promise 4");
        CachedSpeaker x = new CachedSpeaker();
        for (int n : new int[] {-1, 1501, Integer.MIN_VALUE, Integer.MAX_VALUE}) {
            same("size(" + n + ")", x.size(n), false);
        }
        same("load()", x.load(), -11);
        same("size(1500)", x.size(1500), true);
        same("load() with length 1500", x.load(), -1);
        same("size(1501)", x.size(1501), false);
        same("load(), the length is as it was", x.load(), -1);
        same("size(0)", x.size(0), true);
        same("load() with length 0", x.load(), -11);

        // A lesser length leaves the bytes behind it as they are.
        byte[] bytes = plain(4, 7).bytes();
        x = plain(4, 7).speaker(0);
        x.size(0);
        same("load() with length 0", x.load(), -11);
        x.size(bytes.length);
        same("load() with the length again", x.load(), 0);
        x.begin();
        same("sum(2)", x.sum(2), 9360);
    }

    private static void load() {
        CHECK.part("promise 5");
        byte[] good = new Draft(1, 1, 4, 4, 2, 0, 1, Draft.pair(0, 1), Draft.pair(8, 2)).bytes();
        int[][] ranges = {{77, 77}, {1, 2}, {1, 4}, {4, 8}, {4, 16}, {2, 12}, {0, 8}, {0, 9}, {1, 10}};
        for (int at = 0; at < 9; at++) {
            loadWith(good, at, ranges[at][0] - 1, -1 - at);
            loadWith(good, at, ranges[at][1] + 1, -1 - at);
            loadWith(good, at, -128, -1 - at);
            loadWith(good, at, 127, -1 - at);
            // What is wrong later is not told before what is wrong here.
            byte[] bytes = good.clone();
            for (int k = at; k < good.length; k++) {
                bytes[k] = -1;
            }
            CachedSpeaker x = new CachedSpeaker();
            Draft.write(x, bytes);
            same("load() with all from " + at + " wrong", x.load(), -1 - at);
            x.size(9);
            same("load() with all from " + at + " wrong and length 9", x.load(), -1 - at);
            x.size(8);
            same("load() with all from " + at + " wrong and length 8", x.load(), -11);
        }
        loadWith(good, 2, 3, -3);
        for (int width = 5; width <= 7; width++) {
            loadWith(good, 3, width, -4);
        }
        loadWith(good, 2, 2, 0);
        loadWith(good, 2, 4, 0);
        loadWith(good, 7, 9, 0);
        loadWith(good, 8, 10, 0);
        // Good numbers that make the image another length.
        loadWith(good, 1, 2, -11);
        loadWith(good, 3, 8, -11);
        loadWith(good, 4, 5, -11);
        loadWith(good, 4, 16, -11);
        loadWith(good, 5, 12, -11);
        loadWith(good, 6, 1, -11);
        // Pair 0 is of 0 .. 7, pair 1 of 0 .. 8.
        loadWith(good, 9, 7, 0);
        loadWith(good, 10, 7, 0);
        loadWith(good, 9, 8, -10);
        loadWith(good, 10, 8, -10);
        loadWith(good, 11, 8, 0);
        loadWith(good, 12, 8, 0);
        loadWith(good, 11, 9, -10);
        loadWith(good, 12, 9, -10);
        loadWith(good, 9, -1, -10);
        loadWith(good, 12, -1, -10);
        loadLengths(good);
        loadGreatest();
    }

    private static void loadWith(byte[] good, int at, int value, int due) {
        byte[] bytes = good.clone();
        bytes[at] = (byte) value;
        CachedSpeaker x = new CachedSpeaker();
        Draft.write(x, bytes);
        same("load() with byte " + at + " being " + value, x.load(), due);
        same("whether there is a model", x.tokens() != CachedSpeaker.NONE, due == 0);
    }

    private static void loadLengths(byte[] good) {
        CachedSpeaker x = new CachedSpeaker();
        Draft.write(x, good);
        int[] lengths = {0, 8, 9, 12, 13, good.length - 1, good.length + 1, 1500};
        for (int length : lengths) {
            x.size(length);
            same("load() with length " + length, x.load(), -11);
        }
        // The pairs are looked at as soon as they are within the length.
        x.put(9, 8);
        x.size(12);
        same("load() with a bad pair and length 12", x.load(), -11);
        x.size(13);
        same("load() with a bad pair and length 13", x.load(), -10);
        x.size(1500);
        same("load() with a bad pair and length 1500", x.load(), -10);
    }

    private static void loadGreatest() {
        int[][] pairs = new int[8][];
        for (int j = 0; j < 8; j++) {
            pairs[j] = Draft.pair(7 + j, 7 + j);
        }
        Draft draft = new Draft(2, 4, 8, 16, 12, 15, 10, pairs);
        same("the length of the greatest image", draft.bytes().length, 1313);
        draft.speaker();
    }

    private static void loadKeepsAndDrops() {
        CHECK.part("promise 5, what stays");
        CachedSpeaker x = plain(4, 7).speaker(0, 0);
        x.begin();
        x.next();
        x.put(0, 0);
        same("load() of a bad image", x.load(), -1);
        same("tokens(), the model stays", x.tokens(), 2);
        same("taken(), the run stays", x.taken(), 3);
        same("output(0), the run stays", x.output(0), 2);
        same("next(), the run goes on", x.next(), 2);
        // Bytes written later are not the model's.
        same("sum(2), by the old numbers", x.sum(2), 40 * 250);

        x = plain(4, 7).speaker(0);
        x.begin();
        x.next();
        same("load() of a good image", x.load(), 0);
        same("taken(), no run", x.taken(), 0);
        same("running(), no run", x.running(), false);
        none("output(0), no run", x.output(0));
        none("sum(0), no run", x.sum(0));
        none("kept(0, 0, 0, 0), no run", x.kept(0, 0, 0, 0));
        CHECK.fails("next(), no run", STATE, x::next);
        same("tokens(), the prompt stays", x.tokens(), 1);
        same("begin()", x.begin(), 1);

        // The new model takes the old one's place, its pairs and counts too.
        x = plain(4, 7, Draft.pair(0, 1), Draft.pair(8, 2)).speaker(0, 1, 2);
        same("tokens() by two pairs", x.tokens(), 1);
        Draft.write(x, plain(4, 7, Draft.pair(1, 2)).bytes());
        same("tokens() before load", x.tokens(), 1);
        x.load();
        same("tokens() by one pair", x.tokens(), 2);
        same("token(1)", x.token(1), 8);
        none("spell(9, 0)", x.spell(9, 0));
    }

    private static void type() {
        CHECK.part("promise 6");
        CachedSpeaker x = plain(4, 7).speaker();
        for (int s : new int[] {-1, 8, 9, Integer.MIN_VALUE, Integer.MAX_VALUE}) {
            same("type(" + s + ")", x.type(s), false);
        }
        same("tokens()", x.tokens(), 0);
        for (int k = 0; k < 24; k++) {
            same("type, time " + k, x.type(k % 8), true);
            same("tokens()", x.tokens(), k + 1);
        }
        same("type, with 24", x.type(0), false);
        same("tokens()", x.tokens(), 24);
        for (int k = 0; k < 24; k++) {
            same("token(" + k + ")", x.token(k), k % 8);
        }
        x.erase();
        same("type, after erase", x.type(5), true);
        same("token(0)", x.token(0), 5);
        CachedSpeaker bare = new CachedSpeaker();
        same("type without a model", bare.type(7), true);
        same("type(8) without a model", bare.type(8), false);
    }

    private static void erase() {
        CHECK.part("promise 7");
        CachedSpeaker x = plain(4, 7).speaker(0, 1);
        x.begin();
        x.next();
        x.erase();
        same("tokens()", x.tokens(), 0);
        none("token(0)", x.token(0));
        same("taken(), the run stays", x.taken(), 3);
        same("running()", x.running(), true);
        same("output(0)", x.output(0) != CachedSpeaker.NONE, true);
        CHECK.fails("begin()", ARGUMENT, x::begin);
        x.erase();
        same("tokens() after erase again", x.tokens(), 0);
        CachedSpeaker bare = new CachedSpeaker();
        bare.type(1);
        bare.erase();
        Draft.write(bare, plain(4, 7).bytes());
        bare.load();
        same("tokens() after erase without a model", bare.tokens(), 0);
    }

    private static void tokens() {
        CHECK.part("promise 8");
        CachedSpeaker bare = new CachedSpeaker();
        bare.type(0);
        none("tokens() without a model", bare.tokens());
        Draft draft = plain(4, 7, Draft.pair(7, 7), Draft.pair(8, 7), Draft.pair(8, 8));
        int[] due = {0, 1, 1, 1, 1, 2, 2, 2, 2};
        CachedSpeaker x = draft.speaker();
        for (int sevens = 0; sevens < due.length; sevens++) {
            // 7; 8; 8 7 -> 9; 8 8 -> 10; 8 8 7 -> 8 9; 8 8 8 -> 10 8; 8 8 8 7 -> 8 8 9 -> 10 9; 8 8 8 8 -> 10 10.
            same("tokens() of " + sevens + " sevens", x.tokens(), due[sevens]);
            x.type(7);
        }
        same("tokens() of 9 sevens, 10 8 9", x.tokens(), 3);
    }

    private static void row(CachedSpeaker x, int... due) {
        same("tokens()", x.tokens(), due.length);
        for (int i = 0; i < due.length; i++) {
            same("token(" + i + ")", x.token(i), due[i]);
        }
        none("token(" + due.length + ")", x.token(due.length));
        none("token(-1)", x.token(-1));
    }

    private static void token() {
        CHECK.part("promise 9");
        CachedSpeaker bare = new CachedSpeaker();
        bare.type(0);
        none("token(0) without a model", bare.token(0));
        row(plain(4, 7).speaker());
        row(plain(4, 7).speaker(3, 1, 3), 3, 1, 3);
        none("token(24)", plain(4, 7).speaker(1).token(24));
        none("token(least int)", plain(4, 7).speaker(1).token(Integer.MIN_VALUE));
        none("token(greatest int)", plain(4, 7).speaker(1).token(Integer.MAX_VALUE));
        // From the left, and the going on is behind what was merged.
        Draft sevens = plain(4, 7, Draft.pair(7, 7), Draft.pair(8, 7), Draft.pair(8, 8));
        row(sevens.speaker(7, 7, 7), 9);
        row(sevens.speaker(7, 7, 7, 7, 7), 8, 9);
        row(sevens.speaker(7, 7, 7, 7, 7, 7), 10, 8);
        // The least pair first, though another stands further left.
        row(plain(4, 7, Draft.pair(1, 2), Draft.pair(0, 1)).speaker(0, 1, 2), 0, 8);
        row(plain(4, 7, Draft.pair(0, 1), Draft.pair(1, 2)).speaker(0, 1, 2), 8, 2);
        // Of two pairs that are the same, the second one never stands.
        row(plain(4, 7, Draft.pair(0, 1), Draft.pair(0, 1), Draft.pair(8, 8)).speaker(0, 1, 0, 1), 10);
        // Left and right are not the same.
        row(plain(4, 7, Draft.pair(0, 1)).speaker(1, 0, 0, 1, 1), 1, 0, 8, 1);
        // A pair of a token that comes from two merges.
        row(plain(4, 7, Draft.pair(0, 1), Draft.pair(2, 8), Draft.pair(9, 8)).speaker(2, 0, 1, 0, 1, 5), 10, 5);
        // What a later pair makes may be wanted by a pair still later, on both sides.
        row(plain(4, 7, Draft.pair(0, 0), Draft.pair(1, 1), Draft.pair(9, 8), Draft.pair(8, 9))
            .speaker(1, 1, 0, 0, 1, 1), 10, 9);
        int[] all = new int[24];
        int[] merged = new int[12];
        java.util.Arrays.fill(merged, 8);
        row(plain(4, 7, Draft.pair(0, 0)).speaker(all), merged);
    }

    private static void spell() {
        CHECK.part("promise 10");
        none("spell(0, 0) without a model", new CachedSpeaker().spell(0, 0));
        CachedSpeaker x = plain(4, 7, Draft.pair(3, 5), Draft.pair(8, 1), Draft.pair(2, 9)).speaker();
        int[][] due = {{0}, {1}, {2}, {3}, {4}, {5}, {6}, {7}, {3, 5}, {3, 5, 1}, {2, 3, 5, 1}};
        for (int t = 0; t < due.length; t++) {
            for (int i = 0; i < due[t].length; i++) {
                same("spell(" + t + ", " + i + ")", x.spell(t, i), due[t][i]);
            }
            none("spell(" + t + ", one too many)", x.spell(t, due[t].length));
            none("spell(" + t + ", -1)", x.spell(t, -1));
            none("spell(" + t + ", greatest int)", x.spell(t, Integer.MAX_VALUE));
            none("spell(" + t + ", least int)", x.spell(t, Integer.MIN_VALUE));
        }
        for (int t : new int[] {-1, 11, 15, 16, Integer.MIN_VALUE, Integer.MAX_VALUE}) {
            none("spell(" + t + ", 0)", x.spell(t, 0));
        }
        int[][] doubling = new int[8][];
        doubling[0] = Draft.pair(6, 4);
        for (int j = 1; j < 8; j++) {
            doubling[j] = Draft.pair(7 + j, 7 + j);
        }
        x = plain(4, 7, doubling).speaker();
        same("spell(15, 0)", x.spell(15, 0), 6);
        same("spell(15, 128)", x.spell(15, 128), 6);
        same("spell(15, 255)", x.spell(15, 255), 4);
        none("spell(15, 256)", x.spell(15, 256));
    }

    private static void begin() {
        CHECK.part("promise 11");
        CachedSpeaker bare = new CachedSpeaker();
        CHECK.fails("begin() without a model and a prompt", STATE, bare::begin);
        bare.type(0);
        CHECK.fails("begin() without a model", STATE, bare::begin);

        CachedSpeaker x = plain(3, 7).speaker();
        CHECK.fails("begin() without a token", ARGUMENT, x::begin);
        for (int count = 1; count <= 3; count++) {
            x.type(0);
            same("begin()", x.begin(), count);
            same("taken()", x.taken(), count);
            same("running()", x.running(), true);
            none("output(0)", x.output(0));
        }
        x.next();
        x.type(0);
        CHECK.fails("begin() with more than CONTEXT", ARGUMENT, x::begin);
        same("output(0), the run stays as it was", x.output(0), 2);
        same("taken(), the run stays as it was", x.taken(), 3);
        same("running(), the run stays as it was", x.running(), false);
        x.erase();
        CHECK.fails("begin() with nothing", ARGUMENT, x::begin);
        same("output(0), the run stays as it was", x.output(0), 2);
        x.type(0);
        same("begin() in place of another", x.begin(), 1);
        same("taken()", x.taken(), 1);
        none("output(0), nothing put out", x.output(0));
        same("running() again", x.running(), true);

        // The tokens count, not the symbols.
        x = plain(2, 7, Draft.pair(0, 0)).speaker(0, 0, 0, 0);
        same("begin() with two tokens of four symbols", x.begin(), 2);
        x.type(0);
        CHECK.fails("begin() with three tokens", ARGUMENT, x::begin);
    }

    private static void next() {
        CHECK.part("promise 12");
        CHECK.fails("next() without a model", STATE, new CachedSpeaker()::next);
        CachedSpeaker x = plain(3, 7).speaker(0);
        CHECK.fails("next() without a run", STATE, x::next);
        x.begin();
        same("next(), the least of two", x.next(), 2);
        same("taken()", x.taken(), 2);
        same("next()", x.next(), 2);
        same("taken(), as many as CONTEXT", x.taken(), 3);
        same("running()", x.running(), true);
        same("next(), the last", x.next(), 2);
        same("taken(), the last is not taken in", x.taken(), 3);
        same("running()", x.running(), false);
        CHECK.fails("next() after the end", STATE, x::next);
        same("output(2)", x.output(2), 2);
        none("output(3)", x.output(3));

        x = plain(3, 2).speaker(0);
        x.begin();
        same("next(), STOP", x.next(), 2);
        same("taken(), STOP is not taken in", x.taken(), 1);
        same("running()", x.running(), false);
        same("output(0), STOP is put out", x.output(0), 2);
        CHECK.fails("next() after STOP", STATE, x::next);

        // A prompt may hold STOP, and may fill CONTEXT.
        x = plain(2, 0).speaker(0, 0);
        same("begin()", x.begin(), 2);
        same("running()", x.running(), true);
        same("next()", x.next(), 2);
        same("running()", x.running(), false);

        // All sums are 0: the least token comes; merged tokens may come too.
        x = Draft.small(3, 7, 1).speaker(4);
        x.begin();
        same("next() when all sums are 0", x.next(), 0);
        Draft draft = plain(3, 7, Draft.pair(6, 6));
        Draft.set(draft.meanings[8], 50, -50, 50, -50);
        x = draft.speaker(0);
        x.begin();
        same("next(), a token that is no symbol", x.next(), 8);

        // The greatest sum is below 0.
        draft = Draft.small(3, 7, 1);
        for (int t = 0; t < 8; t++) {
            Draft.set(draft.meanings[t], -10 - 10 * ((t + 3) % 8), 0, 0, 0);
        }
        Draft.set(draft.places[0], 127, 0, 0, 0);
        Draft.even(draft.last, 64);
        x = draft.speaker(5);
        x.begin();
        same("sum(5) is below 0", x.sum(5) < 0, true);
        same("next(), the greatest below 0", x.next(), 5);
    }

    private static void go() {
        CHECK.part("promise 13");
        CachedSpeaker bare = new CachedSpeaker();
        CHECK.fails("go(1) without a model", STATE, () -> bare.go(1));
        CHECK.fails("go(0) without a model", ARGUMENT, () -> bare.go(0));
        CHECK.fails("go(21) without a model", ARGUMENT, () -> bare.go(21));
        CachedSpeaker x = plain(6, 7).speaker(0);
        CHECK.fails("go(20) without a run", STATE, () -> x.go(20));
        x.begin();
        for (int n : new int[] {0, -1, 21, Integer.MIN_VALUE, Integer.MAX_VALUE}) {
            CHECK.fails("go(" + n + ")", ARGUMENT, () -> x.go(n));
        }
        same("taken()", x.taken(), 1);
        none("output(0)", x.output(0));
        same("go(1)", x.go(1), 1);
        same("taken()", x.taken(), 2);
        same("go(3)", x.go(3), 3);
        same("taken()", x.taken(), 5);
        same("running()", x.running(), true);
        same("go(20)", x.go(20), 2);
        same("taken()", x.taken(), 6);
        same("running()", x.running(), false);
        same("output(5)", x.output(5), 2);
        none("output(6)", x.output(6));
        CHECK.fails("go(1) after the end", STATE, () -> x.go(1));
        CHECK.fails("go(0) after the end", ARGUMENT, () -> x.go(0));

        CachedSpeaker stopped = plain(6, 2).speaker(0);
        stopped.begin();
        same("go(5) to STOP", stopped.go(5), 1);
        same("running()", stopped.running(), false);
        CachedSpeaker exact = plain(4, 7).speaker(0);
        exact.begin();
        same("go(3), one short of the end", exact.go(3), 3);
        same("running()", exact.running(), true);
        same("go(1), the end", exact.go(1), 1);
        same("running()", exact.running(), false);
        CachedSpeaker longest = plain(12, 7).speaker(0);
        longest.begin();
        same("go(20) over the greatest CONTEXT", longest.go(20), 12);
        same("taken()", longest.taken(), 12);
    }

    private static void output() {
        CHECK.part("promise 14");
        Draft draft = plain(5, 6);
        // The place 1 turns all round, so that the second token put out is another one.
        Draft.set(draft.places[1], -128, 127, -128, 127);
        CachedSpeaker x = draft.speaker(0);
        none("output(0) without a run", x.output(0));
        x.begin();
        none("output(0) before a step", x.output(0));
        same("next()", x.next(), 2);
        none("output(1)", x.output(1));
        same("next()", x.next(), 4);
        same("output(0)", x.output(0), 2);
        same("output(1)", x.output(1), 4);
        none("output(2)", x.output(2));
        none("output(-1)", x.output(-1));
        none("output(least int)", x.output(Integer.MIN_VALUE));
        none("output(greatest int)", x.output(Integer.MAX_VALUE));
        x.go(20);
        same("output(0) after the end", x.output(0), 2);
        none("output(12)", x.output(12));
        none("output(13)", x.output(13));
        x.begin();
        none("output(0) of a new run", x.output(0));
    }

    private static void taken() {
        CHECK.part("promise 15");
        same("taken() without a model", new CachedSpeaker().taken(), 0);
        CachedSpeaker x = plain(5, 7).speaker(0, 1);
        same("taken() without a run", x.taken(), 0);
        x.begin();
        same("taken() of the prompt", x.taken(), 2);
        x.type(0);
        same("taken(), a symbol typed later is not the run's", x.taken(), 2);
        x.next();
        same("taken() after a step", x.taken(), 3);
        x.go(20);
        same("taken() after the end", x.taken(), 5);
    }

    private static void running() {
        CHECK.part("promise 16");
        same("running() without a model", new CachedSpeaker().running(), false);
        CachedSpeaker x = plain(2, 7).speaker(0);
        same("running() without a run", x.running(), false);
        x.begin();
        same("running() after begin", x.running(), true);
        x.next();
        same("running() with CONTEXT full", x.running(), true);
        x.next();
        same("running() after the end", x.running(), false);
        x.begin();
        same("running() after begin again", x.running(), true);
    }

    private static void sum() {
        CHECK.part("promise 17");
        CachedSpeaker x = plain(3, 7, Draft.pair(6, 6)).speaker(0);
        none("sum(0) without a run", x.sum(0));
        x.begin();
        // NORM: m = 0, s = 10, 640 / 11 is 58, -640 / 11 is -59.
        same("sum(0)", x.sum(0), 10 * (58 + 59 + 58 + 59));
        same("sum(1)", x.sum(1), 0);
        same("sum(4)", x.sum(4), -128 * 58);
        same("sum(5)", x.sum(5), 127 * 58);
        same("sum(8)", x.sum(8), 0);
        for (int t : new int[] {-1, 9, 15, 16, Integer.MIN_VALUE, Integer.MAX_VALUE}) {
            none("sum(" + t + ")", x.sum(t));
        }
        x.next();
        // NORM of what was taken in then: s = 40, 2560 / 41 is 62, -2560 / 41 is -63.
        same("sum(0) after a step", x.sum(0), 10 * 250);
        x.go(20);
        same("sum(0) after the end", x.sum(0), 10 * 250);

        // Places are added; the mean may be below 0 and is rounded down; LAST below 0.
        Draft draft = plain(3, 7);
        Draft.set(draft.places[0], -10, 9, -10, 10);
        Draft.set(draft.last, 64, -64, 32, -128);
        Draft.set(draft.meanings[1], 1, 0, 0, 0);
        Draft.set(draft.meanings[5], 0, 1, 0, 0);
        Draft.set(draft.meanings[6], 0, 0, 1, 0);
        Draft.set(draft.meanings[7], 0, 0, 0, 1);
        x = draft.speaker(0);
        x.begin();
        // x = (0, -1, 0, 0), m = -1, over it (1, 0, 1, 1), 3 / 4 is 0, s = 0, y = (64, 0, 64, 64).
        same("sum(1), a mean below 0", x.sum(1), 64);
        same("sum(5)", x.sum(5), 0);
        same("sum(6), half", x.sum(6), 32);
        same("sum(7), clamped from -128", x.sum(7), -127);
        clamps();
    }

    private static void clamps() {
        Draft draft = new Draft(1, 1, 8, 4, 2, 7, 1);
        Draft.set(draft.meanings[0], 80);
        Draft.set(draft.meanings[1], 1);
        Draft.set(draft.meanings[2], 0, 1);
        Draft.set(draft.meanings[3], 0, 0, 1);
        Draft.set(draft.last, 32, 127, 1);
        CachedSpeaker x = draft.speaker(0);
        x.begin();
        // m = 10, 5600 / 8 = 700, s = 26, 4480 / 27 = 165 becomes 127, -640 / 27 is -24.
        same("sum(1), half of 127", x.sum(1), 63);
        same("sum(2), -24 * 127 / 64", x.sum(2), -48);
        same("sum(3), -24 / 64 rounded down", x.sum(3), -1);
    }

    /** Token 0 then 1 with (58, -59, 58, -59) and (-59, 58, -59, 58) as h, keys and values. */
    private static Draft asking(int heads) {
        Draft draft = new Draft(1, heads, 4, 4, 3, 7, 6);
        Draft.set(draft.meanings[0], 10, -10, 10, -10);
        Draft.set(draft.meanings[1], -10, 10, -10, 10);
        for (int i = 0; i < 4; i++) {
            draft.meanings[2 + i][i] = 1;
        }
        Draft.even(draft.first[0], 64);
        draft.squares[0][0][0][0] = -2;
        for (int which = 1; which < 4; which++) {
            Draft.slant(draft.squares[0][which], 64);
        }
        Draft.even(draft.last, 64);
        return draft;
    }

    private static void sums(CachedSpeaker x, int... due) {
        for (int i = 0; i < due.length; i++) {
            same("sum(" + (2 + i) + ")", x.sum(2 + i), due[i]);
        }
    }

    private static void attention() {
        CHECK.part("promise 17, attention");
        // ask = (2, 0, 0, 0); scores 7 and -8; FADE 1024 and 404; weights 183 and 72; out (25, -26, 25, -26);
        // x = (15, -16, 15, -16), m = -1, s = 15.
        CachedSpeaker x = asking(1).speaker(0, 1);
        x.begin();
        sums(x, 64, -60, 64, -60);
        // The second head asks nothing: its weights are 128 and 128, its out (0, 0);
        // x = (15, -16, -10, 10), m = -1, s = 13.
        x = asking(2).speaker(0, 1);
        x.begin();
        sums(x, 73, -69, -42, 50);
        // Four heads: the second number is the second head's then: x = (15, 10, -10, 10),
        // m = 6, over it (9, 4, -16, 4), 369 / 4 = 92, s = 9.
        x = asking(4).speaker(0, 1);
        x.begin();
        sums(x, 57, 25, -103, 25);
    }

    private static void mixing() {
        CHECK.part("promise 17, mixing");
        Draft draft = Draft.small(2, 7, 6);
        Draft.set(draft.meanings[0], 10, -10, 10, -10);
        for (int i = 0; i < 4; i++) {
            draft.meanings[2 + i][i] = 1;
        }
        Draft.even(draft.second[0], 32);
        Draft.slant(draft.up[0], 64);
        Draft.slant(draft.down[0], 64);
        Draft.even(draft.last, 64);
        // u = (29, -30, 29, -30), bent (23, -6, 23, -6); x = (33, -16, 33, -16), m = 8, s = 24.
        CachedSpeaker x = draft.speaker(0);
        x.begin();
        sums(x, 64, -62, 64, -62);
        // u = (58, -59, 58, -59), bent (58, 0, 58, 0); x = (68, -10, 68, -10), m = 29, s = 39.
        Draft.even(draft.second[0], 64);
        x = draft.speaker(0);
        x.begin();
        sums(x, 62, -63, 62, -63);
    }

    private static void kept() {
        CHECK.part("promise 18");
        none("kept(0, 0, 0, 0) without a model", new CachedSpeaker().kept(0, 0, 0, 0));
        Draft draft = asking(1);
        Draft.slant(draft.squares[0][2], 127);
        draft.squares[0][2][3][3] = -127;
        draft.squares[0][2][2][2] = 3;
        CachedSpeaker x = draft.speaker(0, 1);
        none("kept(0, 0, 0, 0) without a run", x.kept(0, 0, 0, 0));
        x.begin();
        int[][][] due = {
            {{58, -59, 58, -59}, {-59, 58, -59, 58}},
            // 127 * 58 / 64 and the like are within -127 .. 127; 3 * 58 + 32 by 64 is 3, 3 * -59 + 32 is -3.
            {{115, -117, 3, 117}, {-117, 115, -3, -115}},
        };
        for (int what = 0; what < 2; what++) {
            for (int p = 0; p < 2; p++) {
                for (int i = 0; i < 4; i++) {
                    same("kept(0, " + p + ", " + what + ", " + i + ")", x.kept(0, p, what, i), due[what][p][i]);
                }
            }
        }
        int[][] wrong = {{-1, 0, 0, 0}, {1, 0, 0, 0}, {2, 0, 0, 0}, {0, -1, 0, 0}, {0, 2, 0, 0}, {0, 12, 0, 0},
            {0, 0, -1, 0}, {0, 0, 2, 0}, {0, 0, 0, -1}, {0, 0, 0, 4}, {0, 0, 1, 8}, {Integer.MAX_VALUE, 0, 0, 0},
            {0, Integer.MAX_VALUE, 0, 0}, {0, 0, Integer.MAX_VALUE, 0}, {0, 0, 0, Integer.MAX_VALUE},
            {Integer.MIN_VALUE, 0, 0, 0}, {0, Integer.MIN_VALUE, 0, 0}, {0, 0, 0, Integer.MIN_VALUE}};
        for (int[] w : wrong) {
            none("kept(" + w[0] + ", " + w[1] + ", " + w[2] + ", " + w[3] + ")", x.kept(w[0], w[1], w[2], w[3]));
        }
        x.next();
        same("kept(0, 2, 0, 0) after a step", x.kept(0, 2, 0, 0) != CachedSpeaker.NONE, true);
        x.go(20);
        same("kept(0, 0, 0, 0) after the end", x.kept(0, 0, 0, 0), 58);
        x.erase();
        x.type(1);
        x.begin();
        same("kept(0, 0, 0, 0) of a new run", x.kept(0, 0, 0, 0), -59);
        none("kept(0, 1, 0, 0) of a new run", x.kept(0, 1, 0, 0));
        keptOfTwoLayers();
    }

    private static void keptOfTwoLayers() {
        Draft draft = new Draft(2, 1, 4, 4, 2, 7, 1);
        Draft.set(draft.meanings[0], 10, -10, 10, -10);
        Draft.even(draft.first[1], 64);
        Draft.slant(draft.squares[1][1], 2);
        Draft.slant(draft.squares[1][2], 127);
        CachedSpeaker x = draft.speaker(0);
        x.begin();
        same("kept(0, 0, 0, 0)", x.kept(0, 0, 0, 0), 0);
        same("kept(1, 0, 0, 0)", x.kept(1, 0, 0, 0), 58);
        same("kept(1, 0, 0, 1)", x.kept(1, 0, 0, 1), -59);
        same("kept(1, 0, 1, 0), clamped", x.kept(1, 0, 1, 0), 127);
        same("kept(1, 0, 1, 1), clamped", x.kept(1, 0, 1, 1), -127);
        none("kept(2, 0, 0, 0)", x.kept(2, 0, 0, 0));
    }
}
