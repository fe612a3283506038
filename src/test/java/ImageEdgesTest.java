import java.util.Arrays;

/** The boundary cases of the image, of the model, and of the promises 1 to 5, a part for each sentence. */
public final class ImageEdgesTest {
    private static final int LEAST = Integer.MIN_VALUE;
    private static final int GREATEST = Integer.MAX_VALUE;
    private static final Check CHECK = new Check("ImageEdgesTest");

    public static void main(String[] args) {
        allIsZeroAtFirst();
        noModelAtFirst();
        bytesOfAllValues();
        putTakesTheseNumbers();
        putWritesEightBytes();
        putSplitsLongs();
        putAtTheEndOfTheGreatestImage();
        fillTakesTheseNumbers();
        fillWritesNBytes();
        fillWraps();
        sizeTakesTheseNumbers();
        sizeLeavesTheBytes();
        everyByteOfTheBeginning();
        stopByMerges();
        everyByteOfThePairs();
        theFirstFaultIsTold();
        lengthsOfTheBeginning();
        lengthsOfThePairs();
        lengthsOfAllShapes();
        leastAndGreatestImage();
        theModelIsWhatTheImageSaid();
        loadLeavesNoRun();
        CHECK.end();
    }

    // ---- what stands at first

    private static void allIsZeroAtFirst() {
        CHECK.part("at first the length is 0 and all bytes are 0 (those behind the length too)");
        CHECK.same("load() of a new object", new CachedSpeaker().load(), -11);
        CachedSpeaker x = new CachedSpeaker();
        x.size(9);
        CHECK.same("load() of nine zeros", x.load(), -1);
        window("of a new object", new CachedSpeaker(), new int[Window.TO + 1]);
        // All numbers of the greatest model are 0, so that all that is worked out is 0.
        x = new CachedSpeaker();
        x.put(0, Draft.eight(new byte[] {77, 2, 4, 8, 16, 12, 8, 15}, 0));
        x.put(8, 10);
        x.size(1313);
        CHECK.same("load() of the greatest model of zeros", x.load(), 0);
        x.type(0);
        CHECK.same("begin()", x.begin(), 1);
        CHECK.same("go(20), always token 0", x.go(20), 12);
        for (int t = 0; t < 16; t++) {
            CHECK.same("sum(" + t + ")", x.sum(t), 0);
        }
        for (int k = 0; k < 384; k++) {
            CHECK.same("a kept number", x.kept(k % 2, k / 2 % 12, k / 24 % 2, k / 48), 0);
        }
    }

    private static void noModelAtFirst() {
        CHECK.part("a model: there is none at first; no run");
        CachedSpeaker x = new CachedSpeaker();
        x.type(0);
        CHECK.none("tokens()", x.tokens());
        CHECK.none("token(0)", x.token(0));
        CHECK.none("spell(0, 0)", x.spell(0, 0));
        CHECK.none("output(0)", x.output(0));
        CHECK.none("sum(0)", x.sum(0));
        CHECK.none("kept(0, 0, 0, 0)", x.kept(0, 0, 0, 0));
        CHECK.same("taken()", x.taken(), 0);
        CHECK.same("running()", x.running(), false);
        CHECK.same("begin()", Check.outcome(x::begin), Check.STATE);
        CHECK.same("next()", Check.outcome(x::next), Check.STATE);
        CHECK.same("go(1)", Check.outcome(() -> x.go(1)), Check.STATE);
        // An image alone is no model: not before it is loaded, nor when it is refused.
        CachedSpeaker written = new CachedSpeaker();
        Draft.write(written, Draft.small(2, 0, 1).bytes());
        CHECK.none("tokens() before load", written.tokens());
        written.size(156);
        CHECK.same("load() that is refused", written.load(), -11);
        CHECK.none("tokens() after it", written.tokens());
        written.size(157);
        CHECK.same("load()", written.load(), 0);
        CHECK.same("tokens()", written.tokens(), 0);
    }

    private static void window(String what, CachedSpeaker x, int[] due) {
        int[] seen = Window.of(x);
        for (int at = Window.FROM; at <= Window.TO; at++) {
            CHECK.same("byte " + at + " " + what, seen[at], due[at]);
        }
    }

    private static void bytesOfAllValues() {
        CHECK.part("bytes (-128 .. 127)");
        for (int from = -128; from < 128; from += 32) {
            CachedSpeaker x = new CachedSpeaker();
            int[] due = new int[Window.TO + 1];
            byte[] bytes = new byte[32];
            for (int k = 0; k < 32; k++) {
                bytes[k] = (byte) (from + k);
                due[20 + k] = from + k;
            }
            for (int k = 0; k < 32; k += 8) {
                x.put(20 + k, Draft.eight(bytes, k));
            }
            window("of those from " + from, x, due);
        }
    }

    // ---- promise 2

    private static void putTakesTheseNumbers() {
        CHECK.part("promise 2: false when i is not 0 .. 1492");
        CachedSpeaker x = new CachedSpeaker();
        for (int i = -20; i <= 1520; i++) {
            x = i % 500 == 0 ? new CachedSpeaker() : x;
            CHECK.same("put(" + i + ", 5)", x.put(i, 5), i >= 0 && i <= 1492);
        }
        for (int i : new int[] {LEAST, LEAST + 1, LEAST + 7, -1500, -1492, -8, 1493, 1500, GREATEST - 7, GREATEST}) {
            CHECK.same("put(" + i + ", 5)", new CachedSpeaker().put(i, 5), false);
        }
    }

    private static void putWritesEightBytes() {
        CHECK.part("promise 2: bytes i .. i + 7 and no other");
        for (int i = 0; i <= 73; i++) {
            CachedSpeaker x = new CachedSpeaker();
            x.fill(0, 100, 3);
            int[] due = new int[100];
            for (int at = 0; at < 100; at++) {
                due[at] = formula(at, 3);
            }
            x.put(i, 0x7FFF80A07B7A7978L);
            int[] put = {120, 121, 122, 123, -96, -128, -1, 127};
            System.arraycopy(put, 0, due, i, 8);
            window("after put(" + i + ", ..)", x, due);
        }
    }

    private static void putSplitsLongs() {
        CHECK.part("promise 2: the lowest 8 bits of row, the next 8, and so on, each from -128 to 127");
        putGives(0L, 0, 0, 0, 0, 0, 0, 0, 0);
        putGives(-1L, -1, -1, -1, -1, -1, -1, -1, -1);
        putGives(Long.MIN_VALUE, 0, 0, 0, 0, 0, 0, 0, -128);
        putGives(Long.MIN_VALUE + 1, 1, 0, 0, 0, 0, 0, 0, -128);
        putGives(Long.MAX_VALUE, -1, -1, -1, -1, -1, -1, -1, 127);
        putGives(127L, 127, 0, 0, 0, 0, 0, 0, 0);
        putGives(128L, -128, 0, 0, 0, 0, 0, 0, 0);
        putGives(255L, -1, 0, 0, 0, 0, 0, 0, 0);
        putGives(256L, 0, 1, 0, 0, 0, 0, 0, 0);
        putGives(-128L, -128, -1, -1, -1, -1, -1, -1, -1);
        putGives(-129L, 127, -1, -1, -1, -1, -1, -1, -1);
        putGives(-256L, 0, -1, -1, -1, -1, -1, -1, -1);
        putGives(2147483647L, -1, -1, -1, 127, 0, 0, 0, 0);
        putGives(2147483648L, 0, 0, 0, -128, 0, 0, 0, 0);
        putGives(-2147483648L, 0, 0, 0, -128, -1, -1, -1, -1);
        putGives(4294967295L, -1, -1, -1, -1, 0, 0, 0, 0);
        putGives(4294967296L, 0, 0, 0, 0, 1, 0, 0, 0);
        putGives(0x0807060504030201L, 1, 2, 3, 4, 5, 6, 7, 8);
        putGives(0x8080808080808080L, -128, -128, -128, -128, -128, -128, -128, -128);
        putGives(0x7F7F7F7F7F7F7F7FL, 127, 127, 127, 127, 127, 127, 127, 127);
    }

    private static void putGives(long row, int... bytes) {
        CachedSpeaker x = new CachedSpeaker();
        CHECK.same("put(33, " + row + ")", x.put(33, row), true);
        int[] due = new int[Window.TO + 1];
        System.arraycopy(bytes, 0, due, 33, 8);
        window("after put(33, " + row + ")", x, due);
    }

    /** The greatest model, which does nothing in its layers: number i of y is the sum of token 1 + i. */
    private static Draft greatest() {
        int[][] pairs = new int[8][2];
        Draft draft = new Draft(2, 4, 8, 16, 12, 15, 10, pairs);
        Draft.set(draft.places[0], 1, -1, 1, -1, 1, -1, 1, -1);
        for (int i = 0; i < 7; i++) {
            draft.meanings[1 + i][i] = 1;
        }
        draft.meanings[8][7] = 1;
        return draft;
    }

    private static void putAtTheEndOfTheGreatestImage() {
        CHECK.part("promise 2: the last bytes that a model can have are 1305 .. 1312, its LAST");
        CachedSpeaker x = greatest().speaker(0);
        CHECK.same("put(1305, ..)", x.put(1305, 0x8040FE0240FE0240L), true);
        CHECK.same("put(1492, -1), behind the length", x.put(1492, -1), true);
        CHECK.same("put(1313, -1), behind the length", x.put(1313, -1), true);
        CHECK.same("load()", x.load(), 0);
        CHECK.same("begin()", x.begin(), 1);
        // 32 * 64 / 64; -32 * 2 / 64; 32 * -2 / 64; -32 * 64 / 64; 1; 1; 32; -32 * -128 / 64.
        int[] due = {32, -1, -1, -32, 1, 1, 32, 64};
        for (int i = 0; i < 8; i++) {
            CHECK.same("sum(" + (1 + i) + ")", x.sum(1 + i), due[i]);
        }
    }

    // ---- promise 3

    /** In longs, cut to 32 bits after each step, so that nothing leans on how ints wrap. */
    private static int formula(long number, long seed) {
        long b = (seed * 1000003 + number * 7919) & 0xFFFFFFFFL;
        long a = ((b ^ (b >> 13)) * 40503) & 0xFFFFFFFFL;
        return (int) ((a >> 9) % 64) - 32;
    }

    private static void fillTakesTheseNumbers() {
        CHECK.part("promise 3: false when i is not 0 .. 1499, n is not 1 .. 1500, or i + n is above 1500");
        int[] numbers = {LEAST, LEAST + 1, LEAST + 1500, -1500, -2, -1, 0, 1, 2, 8, 749, 750, 751, 1498, 1499, 1500,
            1501, 1502, GREATEST - 1500, GREATEST - 1, GREATEST};
        for (int i : numbers) {
            for (int n : numbers) {
                boolean due = i >= 0 && i <= 1499 && n >= 1 && n <= 1500 && (long) i + n <= 1500;
                CHECK.same("fill(" + i + ", " + n + ", 1)", new CachedSpeaker().fill(i, n, 1), due);
            }
        }
        for (int i = 0; i < 1500; i++) {
            CachedSpeaker x = new CachedSpeaker();
            CHECK.same("fill(" + i + ", all that is left, 1)", x.fill(i, 1500 - i, 1), true);
            CHECK.same("fill(" + i + ", one more, 1)", x.fill(i, 1501 - i, 1), false);
        }
    }

    private static void fillWritesNBytes() {
        CHECK.part("promise 3: byte i + k, for k from 0 to n - 1, and no other");
        int[][] parts = {{0, 1500}, {0, 9}, {0, 10}, {9, 1}, {8, 2}, {10, 1}, {63, 1}, {64, 1}, {64, 1436}, {65, 1435},
            {20, 8}, {20, 9}, {9, 56}, {10, 54}, {1499, 1}, {1313, 187}};
        for (int[] part : parts) {
            CachedSpeaker x = new CachedSpeaker();
            x.put(9, -1);
            x.put(57, -1);
            int[] due = new int[1500];
            Arrays.fill(due, 9, 17, -1);
            Arrays.fill(due, 57, 65, -1);
            for (int at = part[0]; at < part[0] + part[1]; at++) {
                due[at] = formula(at, -7);
            }
            CHECK.same("fill(" + part[0] + ", " + part[1] + ", -7)", x.fill(part[0], part[1], -7), true);
            window("after fill(" + part[0] + ", " + part[1] + ", -7)", x, due);
        }
    }

    private static void fillWraps() {
        CHECK.part("promise 3: in ints that wrap");
        // Worked out by hand: b = 102947, a = 102959 * 40503, (a >>> 9) & 63 = 53.
        CHECK.same("byte 13 by seed 0", formula(13, 0), 21);
        int[] seeds = {0, 1, -1, 2, 2147, 2148, -2147, -2148, 4294, 4295, 1 << 16, 1 << 30, 1000003, -1000003,
            LEAST, LEAST + 1, GREATEST, GREATEST - 1};
        for (int seed : seeds) {
            CachedSpeaker x = new CachedSpeaker();
            x.fill(0, 1500, seed);
            int[] due = new int[Window.TO + 1];
            for (int at = 0; at < due.length; at++) {
                due[at] = formula(at, seed);
            }
            window("by seed " + seed, x, due);
        }
    }

    // ---- promise 4

    private static void sizeTakesTheseNumbers() {
        CHECK.part("promise 4: false when n is not 0 .. 1500");
        CachedSpeaker x = new CachedSpeaker();
        for (int n = -20; n <= 1520; n++) {
            x = n % 500 == 0 ? new CachedSpeaker() : x;
            CHECK.same("size(" + n + ")", x.size(n), n >= 0 && n <= 1500);
        }
        for (int n : new int[] {LEAST, LEAST + 1, -1500, -9, -1, 1501, GREATEST - 1, GREATEST}) {
            CachedSpeaker good = Draft.small(2, 0, 1).speaker();
            CHECK.same("size(" + n + ")", good.size(n), false);
            CHECK.same("load() after size(" + n + "), the length is as it was", good.load(), 0);
        }
    }

    private static void sizeLeavesTheBytes() {
        CHECK.part("promise 4: the length becomes n, and nothing else is changed");
        CachedSpeaker x = Draft.small(2, 0, 1).speaker();
        int[][] lengths = {{0, -11}, {157, 0}, {1500, -11}, {157, 0}, {9, -11}, {8, -11}, {157, 0}, {156, -11}, {158, -11}};
        for (int[] length : lengths) {
            CHECK.same("size(" + length[0] + ")", x.size(length[0]), true);
            CHECK.same("load() with length " + length[0], x.load(), length[1]);
        }
        x = new CachedSpeaker();
        x.fill(0, 1500, 9);
        x.size(0);
        x.size(1500);
        int[] due = new int[Window.TO + 1];
        for (int at = 0; at < due.length; at++) {
            due[at] = formula(at, 9);
        }
        window("after size(0) and size(1500)", x, due);
    }

    // ---- promise 5 and the beginning of an image

    private static int loaded(byte[] bytes, int length) {
        CachedSpeaker x = new CachedSpeaker();
        Draft.write(x, bytes);
        x.size(length);
        return x.load();
    }

    private static byte[] with(byte[] bytes, int at, int value) {
        byte[] changed = bytes.clone();
        changed[at] = (byte) value;
        return changed;
    }

    /** As the document lists them; MERGES are 2 here, so that STOP goes to 9. */
    private static boolean asSaid(int at, int value) {
        int[][] taken = {{77}, {1, 2}, {1, 2, 4}, {4, 8}, {4, 5, 6, 7, 8, 9, 10, 11, 12, 13, 14, 15, 16},
            {2, 3, 4, 5, 6, 7, 8, 9, 10, 11, 12}, {0, 1, 2, 3, 4, 5, 6, 7, 8}, {0, 1, 2, 3, 4, 5, 6, 7, 8, 9},
            {1, 2, 3, 4, 5, 6, 7, 8, 9, 10}};
        return Arrays.stream(taken[at]).anyMatch(one -> one == value);
    }

    private static void everyByteOfTheBeginning() {
        byte[] good = Draft.small(2, 9, 1, new int[2][2]).bytes();
        for (int at = 0; at < 9; at++) {
            CHECK.part("promise 5: " + (-1 - at) + " byte " + at + " is not as said");
            for (int value = -128; value <= 127; value++) {
                int answer = loaded(with(good, at, value), good.length);
                if (!asSaid(at, value)) {
                    CHECK.same("load() with " + value, answer, -1 - at);
                } else if (at == 6 && value < 2) {
                    // With fewer MERGES the STOP behind them is too great.
                    CHECK.same("load() with " + value, answer, -8);
                } else {
                    boolean sameLength = value == good[at] || at == 2 || at == 7 || at == 8;
                    CHECK.same("load() with " + value, answer, sameLength ? 0 : -11);
                }
            }
        }
    }

    private static void stopByMerges() {
        CHECK.part("promise 5: STOP, from 0 to 7 + MERGES");
        for (int merges = 0; merges <= 8; merges++) {
            byte[] good = Draft.small(2, 0, 1, new int[merges][2]).bytes();
            for (int stop = -128; stop <= 127; stop++) {
                int due = stop >= 0 && stop <= 7 + merges ? 0 : -8;
                CHECK.same("load() with MERGES " + merges + ", STOP " + stop, loaded(with(good, 7, stop), good.length), due);
            }
        }
    }

    private static void everyByteOfThePairs() {
        CHECK.part("promise 5: -10 a byte of a pair is not as said: those of pair j are 0 .. 7 + j");
        byte[] good = Draft.small(2, 0, 1, new int[8][2]).bytes();
        for (int j = 0; j < 8; j++) {
            for (int value = -128; value <= 127; value++) {
                int due = value >= 0 && value <= 7 + j ? 0 : -10;
                CHECK.same("load() with left " + value + " of pair " + j,
                    loaded(with(good, 9 + 2 * j, value), good.length), due);
                CHECK.same("load() with right " + value + " of pair " + j,
                    loaded(with(good, 10 + 2 * j, value), good.length), due);
            }
        }
        // What stands behind the last pair is no pair: any byte will do there.
        for (int merges = 0; merges < 8; merges++) {
            byte[] bytes = Draft.small(2, 0, 1, new int[merges][2]).bytes();
            Arrays.fill(bytes, 9 + 2 * merges, bytes.length, (byte) -128);
            CHECK.same("load() with MERGES " + merges + " and -128 behind the pairs", loaded(bytes, bytes.length), 0);
        }
    }

    private static void theFirstFaultIsTold() {
        CHECK.part("promise 5: the first of these that holds");
        byte[] good = Draft.small(2, 0, 1, new int[2][2]).bytes();
        for (int at = 0; at < 9; at++) {
            for (int later = at + 1; later < 13; later++) {
                byte[] bytes = with(with(good, later, -1), at, -1);
                CHECK.same("load() with bytes " + at + " and " + later + " wrong", loaded(bytes, good.length), -1 - at);
                CHECK.same("and length 9", loaded(bytes, 9), -1 - at);
                CHECK.same("and length 1500", loaded(bytes, 1500), -1 - at);
                CHECK.same("and length 8", loaded(bytes, 8), -11);
                CHECK.same("and length 0", loaded(bytes, 0), -11);
            }
        }
        for (int at = 9; at < 13; at++) {
            byte[] bytes = with(good, at, -1);
            CHECK.same("load() with byte " + at + " wrong and length 12", loaded(bytes, 12), -11);
            CHECK.same("load() with byte " + at + " wrong and length 13", loaded(bytes, 13), -10);
            CHECK.same("load() with byte " + at + " wrong and length 1500", loaded(bytes, 1500), -10);
        }
    }

    private static void lengthsOfTheBeginning() {
        CHECK.part("promise 5: -11 the length is below 9");
        byte[] good = Draft.small(2, 0, 1).bytes();
        byte[] wrong = with(good, 0, 76);
        byte[] wrongAtTheEnd = with(good, 8, 11);
        for (int length = 0; length <= 10; length++) {
            CHECK.same("load() of good bytes, length " + length, loaded(good, length), -11);
            CHECK.same("load() with byte 0 wrong, length " + length, loaded(wrong, length), length < 9 ? -11 : -1);
            CHECK.same("load() with byte 8 wrong, length " + length, loaded(wrongAtTheEnd, length), length < 9 ? -11 : -9);
        }
    }

    private static void lengthsOfThePairs() {
        CHECK.part("promise 5: -11 the length is below 9 + 2 * MERGES");
        for (int merges = 1; merges <= 8; merges++) {
            byte[] good = Draft.small(2, 0, 1, new int[merges][2]).bytes();
            int end = 9 + 2 * merges;
            for (int length = 9; length <= end + 2; length++) {
                String with = " with MERGES " + merges + ", length " + length;
                CHECK.same("load()" + with, loaded(good, length), -11);
                CHECK.same("load(), the first pair wrong," + with, loaded(with(good, 9, 8), length), length < end ? -11 : -10);
                CHECK.same("load(), the last one wrong," + with,
                    loaded(with(good, end - 1, 7 + merges), length), length < end ? -11 : -10);
            }
        }
    }

    private static void lengthsOfAllShapes() {
        CHECK.part("promise 5: -11 the length is not as said");
        int[] heads = {1, 2, 4};
        for (int k = 0; k < 2 * 2 * 13 * 11 * 9; k++) {
            int layers = 1 + k % 2;
            int width = 4 + 4 * (k / 2 % 2);
            int inner = 4 + k / 4 % 13;
            int context = 2 + k / 52 % 11;
            int merges = k / 572;
            Draft draft = new Draft(layers, heads[k % 3], width, inner, context, 7 + merges, 1 + k % 10, new int[merges][2]);
            byte[] bytes = draft.bytes();
            CachedSpeaker x = new CachedSpeaker();
            x.put(0, Draft.eight(bytes, 0));
            x.put(8, bytes[8]);
            String what = "load() of layers " + layers + ", width " + width + ", inner " + inner + ", context " + context
                + ", merges " + merges + ", length ";
            for (int off = -1; off <= 1; off++) {
                x.size(bytes.length + off);
                CHECK.same(what + (bytes.length + off), x.load(), off == 0 ? 0 : -11);
            }
        }
    }

    private static void leastAndGreatestImage() {
        CHECK.part("the least image and the greatest one");
        byte[] least = Draft.small(2, 0, 1).bytes();
        CHECK.same("the least length", least.length, 157);
        byte[] greatest = greatest().bytes();
        CHECK.same("the greatest length", greatest.length, 1313);
        for (int length : new int[] {0, 8, 9, 156, 157, 158, 1313, 1500}) {
            CHECK.same("load() of the least with length " + length, loaded(least, length), length == 157 ? 0 : -11);
        }
        for (int length : new int[] {0, 9, 24, 25, 157, 1312, 1313, 1314, 1499, 1500}) {
            CHECK.same("load() of the greatest with length " + length, loaded(greatest, length), length == 1313 ? 0 : -11);
        }
    }

    // ---- what load leaves

    /** The layers do nothing; y is (32, -32, 32, -32), and the sum of token t is that of its meaning by it. */
    private static Draft level(int context, int stop, int[]... pairs) {
        Draft draft = Draft.small(context, stop, 1, pairs);
        for (int p = 0; p < context; p++) {
            Draft.set(draft.places[p], 1, -1, 1, -1);
        }
        Draft.even(draft.last, 64);
        draft.meanings[1][0] = 3;
        return draft;
    }

    private static void theModelIsWhatTheImageSaid() {
        CHECK.part("a model is what an image said when it was loaded");
        CachedSpeaker x = level(4, 7, Draft.pair(0, 0)).speaker(0, 0, 0);
        x.fill(0, 1500, 77);
        x.size(3);
        CHECK.same("tokens() by the pair that was loaded", x.tokens(), 2);
        CHECK.same("spell(8, 1)", x.spell(8, 1), 0);
        CHECK.same("begin()", x.begin(), 2);
        CHECK.same("sum(1) by the meaning that was loaded", x.sum(1), 96);
        CHECK.same("next()", x.next(), 1);
        CHECK.same("load() of what was written since", x.load(), -11);
        CHECK.same("taken(), the run stays", x.taken(), 3);
        x.erase();
        x.type(0);
        CHECK.same("begin(), the model stays", x.begin(), 1);
        CHECK.same("sum(1)", x.sum(1), 96);
        // A model with less in it leaves nothing of the one before.
        Draft.write(x, level(2, 7).bytes());
        CHECK.same("load()", x.load(), 0);
        CHECK.none("spell(8, 0), no such token any more", x.spell(8, 0));
        x.type(0);
        CHECK.same("tokens(), no pair any more", x.tokens(), 2);
        x.type(0);
        CHECK.same("begin() with three tokens, CONTEXT is 2", Check.outcome(x::begin), Check.ARGUMENT);
    }

    private static void loadLeavesNoRun() {
        CHECK.part("promise 5: the model is what it says, without a run");
        for (int steps = 0; steps <= 4; steps++) {
            CachedSpeaker x = level(4, 7).speaker(0);
            x.begin();
            for (int k = 0; k < steps; k++) {
                x.next();
            }
            CHECK.same("running() after " + steps + " steps", x.running(), steps < 4);
            CHECK.same("load()", x.load(), 0);
            CHECK.same("running()", x.running(), false);
            CHECK.same("taken()", x.taken(), 0);
            CHECK.none("output(0)", x.output(0));
            CHECK.none("sum(0)", x.sum(0));
            CHECK.none("kept(0, 0, 0, 0)", x.kept(0, 0, 0, 0));
            CHECK.none("kept(0, 0, 1, 3)", x.kept(0, 0, 1, 3));
            CHECK.same("next()", Check.outcome(x::next), Check.STATE);
            CHECK.same("go(20)", Check.outcome(() -> x.go(20)), Check.STATE);
            CHECK.same("tokens(), the prompt stays", x.tokens(), 1);
            CHECK.same("begin()", x.begin(), 1);
            CHECK.none("output(0) of the new run", x.output(0));
        }
    }
}
