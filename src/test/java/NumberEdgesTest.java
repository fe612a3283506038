import java.util.Arrays;

/**
 * FLOOR, CLAMP, ROOT, NORM, TIMES, FADE and BEND at the ends of what they take, each seen through the
 * face: a kept number, or a sum, is made to be the number itself. The due numbers are worked out by hand,
 * or where a whole range is gone through, by a formula that stands beside it.
 */
public final class NumberEdgesTest {
    private static final Check CHECK = new Check("NumberEdgesTest");

    public static void main(String[] args) {
        floorOfTheMean();
        rootBetweenSquares();
        rootAtTheGreatEnds();
        normOfEqualNumbers();
        normClampsItsFirstNumbers();
        normClampsItsLastNumbers();
        normFloorsItsLastNumbers();
        timesRoundsByEveryShift();
        timesClamps();
        timesOfTheGreatestSums();
        fadeOfTheFirstNumbers();
        fadeOfTheLastNumbers();
        fadeIsNothingFarOff();
        scoresAreFloored();
        outIsFloored();
        onePositionAlone();
        bendAtItsEnds();
        bendOfAllNumbers();
        mixingClamps();
        mostInnerNumbers();
        xIsNotClamped();
        sumsAtTheirEnds();
        CHECK.end();
    }

    // ---- NORM

    /** A model whose keys at position 0 are NORM(x, gains), and so are the sums of the tokens from 1 on. */
    private static CachedSpeaker norming(int[] x, int[] gains) {
        int w = x.length;
        Draft draft = new Draft(1, 1, w, 4, 2, 0, 6, new int[1][2]);
        for (int i = 0; i < w; i++) {
            draft.meanings[0][i] = Math.max(-128, Math.min(127, x[i]));
            draft.places[0][i] = x[i] - draft.meanings[0][i];
            draft.meanings[1 + i][i] = 1;
        }
        Draft.set(draft.first[0], gains);
        Draft.slant(draft.squares[0][1], 64);
        Draft.set(draft.last, gains);
        CachedSpeaker speaker = draft.speaker(0);
        speaker.begin();
        return speaker;
    }

    private static void norm(int[] x, int[] gains, int... due) {
        CachedSpeaker speaker = norming(x, gains);
        for (int i = 0; i < x.length; i++) {
            String what = "number " + i + " of NORM(" + Arrays.toString(x) + ", " + Arrays.toString(gains) + ")";
            CHECK.same(what + " as a key", speaker.kept(0, 0, 0, i), due[i]);
            CHECK.same(what + " as a sum", speaker.sum(1 + i), due[i]);
        }
    }

    private static int[] row(int... numbers) {
        return numbers;
    }

    private static int[] even(int n, int number) {
        int[] row = new int[n];
        Arrays.fill(row, number);
        return row;
    }

    private static void floorOfTheMean() {
        CHECK.part("FLOOR: the greatest whole number that is not above a / b");
        int[] one = even(4, 64);
        // m = 0, 1, 1, 0 and then -1, -1, -1, -2.
        norm(row(0, 0, 0, 3), one, 0, 0, 0, 96);
        norm(row(0, 0, 0, 4), one, -32, -32, -32, 96);
        norm(row(0, 0, 0, 5), one, -22, -22, -22, 85);
        norm(row(0, 0, 0, 1), one, 0, 0, 0, 64);
        norm(row(0, 0, 0, -1), one, 64, 64, 64, 0);
        norm(row(0, 0, 0, -3), one, 32, 32, 32, -64);
        norm(row(0, 0, 0, -4), one, 32, 32, 32, -96);
        norm(row(0, 0, 0, -5), one, 42, 42, 42, -64);
        int[] eight = even(8, 64);
        // The sum -1, -8 and -9 by 8.
        norm(row(0, 0, 0, 0, 0, 0, 0, -1), eight, 64, 64, 64, 64, 64, 64, 64, 0);
        norm(row(-1, -1, -1, -1, -1, -1, -1, -1), eight, 0, 0, 0, 0, 0, 0, 0, 0);
        norm(row(-1, -1, -1, -1, -1, -1, -1, -2), eight, 64, 64, 64, 64, 64, 64, 64, 0);
    }

    private static void rootBetweenSquares() {
        CHECK.part("ROOT: the greatest whole number whose square is not above a");
        int[] one = even(4, 64);
        // ROOT of 0 (3 / 4), 1, 3 (13 / 4), 4, 8 (35 / 4), 9.
        norm(row(1, -1, 1, 0), one, 64, -64, 64, 0);
        norm(row(1, -1, 1, -1), one, 32, -32, 32, -32);
        norm(row(2, -2, 2, -1), one, 64, -64, 64, -32);
        norm(row(2, -2, 2, -2), one, 42, -43, 42, -43);
        norm(row(5, -3, -1, 0), one, 106, -64, -22, 0);
        norm(row(5, -3, -1, -1), one, 80, -48, -16, -16);
        // ROOT of a^2 is a, for all a that two bytes can bring about: y = 64 * a / (a + 1).
        for (int a = 1; a <= 254; a++) {
            int y = 64 * a / (a + 1);
            int below = 64 * a % (a + 1) == 0 ? -y : -y - 1;
            norm(row(a, -a, a, -a), one, y, below, y, below);
        }
    }

    private static void rootAtTheGreatEnds() {
        CHECK.part("ROOT of the greatest numbers that meaning and place make");
        int[] one = even(4, 64);
        // m = -1, over it 255 and -255, ROOT(65025) = 255; 64 * 255 / 256 is 63, -64 * 255 / 256 is -64.
        norm(row(254, -256, 254, -256), one, 63, -64, 63, -64);
        // m = -1, over it 255 and -254, ROOT(64770) = 254; 64 * 255 / 255 is 64, -64 * 254 / 255 is -64.
        norm(row(254, -255, 254, -255), one, 64, -64, 64, -64);
        norm(row(254, -255, 254, -255, 254, -255, 254, -255), even(8, 64), 64, -64, 64, -64, 64, -64, 64, -64);
    }

    private static void normOfEqualNumbers() {
        CHECK.part("NORM of equal numbers, ROOT(0)");
        for (int number : new int[] {-256, -255, -1, 0, 1, 127, 128, 254}) {
            for (int gain : new int[] {-128, -1, 0, 1, 127}) {
                norm(even(4, number), even(4, gain), 0, 0, 0, 0);
                norm(even(8, number), even(8, gain), 0, 0, 0, 0, 0, 0, 0, 0);
            }
        }
    }

    private static void normClampsItsFirstNumbers() {
        CHECK.part("CLAMP in NORM, before g: -127 when it is below that, 127 when it is above that");
        int[] eight = even(8, 64);
        // The mean is 0 and the root 63 (of 3969 .. 4095) in each of these: 64 * xi / 64 is xi itself.
        norm(row(126, -100, -26, 51, -51, 0, 0, 0), eight, 126, -100, -26, 51, -51, 0, 0, 0);
        norm(row(127, -100, -27, 50, -50, 0, 0, 0), eight, 127, -100, -27, 50, -50, 0, 0, 0);
        norm(row(128, -100, -28, 50, -50, 0, 0, 0), eight, 127, -100, -28, 50, -50, 0, 0, 0);
        norm(row(-126, 100, 26, 51, -51, 0, 0, 0), eight, -126, 100, 26, 51, -51, 0, 0, 0);
        norm(row(-127, 100, 27, 50, -50, 0, 0, 0), eight, -127, 100, 27, 50, -50, 0, 0, 0);
        norm(row(-128, 100, 28, 50, -50, 0, 0, 0), eight, -127, 100, 28, 50, -50, 0, 0, 0);
        // With half of g it is seen that the number before was 127 or -127: 63 and -64, not 64 and -64.
        norm(row(128, -100, -28, 50, -50, 0, 0, 0), even(8, 32), 63, -50, -14, 25, -25, 0, 0, 0);
        norm(row(-129, 100, 29, 49, -49, 0, 0, 0), even(8, 32), -64, 50, 14, 24, -25, 0, 0, 0);
        // One number far from the others: m = 190, over it -446 and 64, ROOT(28448) = 168, 4096 / 169 is 24;
        // m = -193, over it 447 and -63, ROOT(28449) = 168, -4032 / 169 is -24.
        norm(row(-256, 254, 254, 254, 254, 254, 254, 254), eight, -127, 24, 24, 24, 24, 24, 24, 24);
        norm(row(254, -256, -256, -256, -256, -256, -256, -256), eight, 127, -24, -24, -24, -24, -24, -24, -24);
    }

    private static void normClampsItsLastNumbers() {
        CHECK.part("CLAMP in NORM, after g");
        // The mean is 0 and the root 63 (4001): y is x itself.
        int[] x = row(127, -64, -64, 1, 62, -62, 0, 0);
        norm(x, even(8, 64), 127, -64, -64, 1, 62, -62, 0, 0);
        norm(x, row(63, 127, 126, 127, 127, 127, 127, -128), 125, -127, -126, 1, 123, -124, 0, 0);
        // 127 * 65 = 8255 by 64 is 128; -64 * -128 by 64 is 128; 62 * -128 by 64 is -124.
        norm(x, row(65, -128, -127, -128, -128, -128, 1, 1), 127, 127, 127, -2, -124, 124, 0, 0);
        norm(x, row(127, 127, -126, -64, 0, 0, 0, 0), 127, -127, 126, -1, 0, 0, 0, 0);
        norm(x, row(-64, 0, 0, 0, 0, 0, 0, 0), -127, 0, 0, 0, 0, 0, 0, 0);
        // 127 * -65 by 64 is -129, 127 * -128 by 64 is -254.
        norm(x, row(-65, 0, 0, 0, 0, 0, 0, 0), -127, 0, 0, 0, 0, 0, 0, 0);
        norm(x, row(-128, 0, 0, 0, 0, 0, 0, 0), -127, 0, 0, 0, 0, 0, 0, 0);
        // The other way round: -127 * -65 by 64 is 128; 64 * -128 by 64 is -128.
        int[] turned = row(-127, 64, 64, -1, 62, -62, 0, 0);
        norm(turned, row(-65, -128, -127, 0, 0, 0, 0, 0), 127, -127, -127, 0, 0, 0, 0, 0);
        norm(turned, row(65, 127, 126, 0, 0, 0, 0, 0), -127, 127, 126, 0, 0, 0, 0, 0);
    }

    private static void normFloorsItsLastNumbers() {
        CHECK.part("FLOOR in NORM, after g");
        int[] x = row(127, -64, -64, 1, 62, -62, 0, 0);
        // 127 / 64, -64 / 64, -64 * 2 / 64, 1 / 64, 62 / 64, -62 / 64.
        norm(x, row(1, 1, 2, 1, 1, 1, 1, 1), 1, -1, -2, 0, 0, -1, 0, 0);
        // -127 / 64, 64 / 64, 0, -1 / 64, -62 / 64, 62 / 64.
        norm(x, row(-1, -1, 0, -1, -1, -1, -1, -1), -2, 1, 0, -1, -1, 0, 0, 0);
        // 1 * 63, 1 * 64 and 1 * 127 by 64, 1 * -63, 1 * -64, 1 * -65 and 1 * -128 by 64.
        int[][] gains = {{63, 0}, {64, 1}, {127, 1}, {-63, -1}, {-64, -1}, {-65, -2}, {-128, -2}, {0, 0}};
        for (int[] gain : gains) {
            norm(x, row(0, 0, 0, gain[0], 0, 0, 0, 0), 0, 0, 0, gain[1], 0, 0, 0, 0);
        }
    }

    // ---- TIMES

    /** h is (127, -64, -64, 1, 62, -62, 0, 0), and the rows are those of VALUE. */
    private static CachedSpeaker multiplying(int shift, int[]... rows) {
        Draft draft = new Draft(1, 1, 8, 4, 2, 0, shift);
        Draft.set(draft.meanings[0], 127, -64, -64, 1, 62, -62, 0, 0);
        Draft.even(draft.first[0], 64);
        for (int r = 0; r < rows.length; r++) {
            Draft.set(draft.squares[0][2][r], rows[r]);
        }
        CachedSpeaker speaker = draft.speaker(0);
        speaker.begin();
        return speaker;
    }

    private static void times(int shift, int[] row, int due) {
        for (int r = 0; r < 8; r++) {
            int[][] rows = new int[8][8];
            rows[r] = row;
            CachedSpeaker x = multiplying(shift, rows);
            for (int i = 0; i < 8; i++) {
                CHECK.same("TIMES with SHIFT " + shift + ", row " + r + " being " + Arrays.toString(row) + ", number " + i,
                    x.kept(0, 0, 1, i), i == r ? due : 0);
            }
        }
    }

    /** A row whose sum with h is this one, by its numbers -64, -64 and 1. */
    private static int[] summing(int sum) {
        int sixtyFours = Math.floorDiv(sum, 64);
        int some = sixtyFours / 2;
        return row(0, -some, some - sixtyFours, sum - 64 * sixtyFours);
    }

    private static void timesRoundsByEveryShift() {
        CHECK.part("TIMES: FLOOR of the sum and 2^(SHIFT - 1) by 2^SHIFT, SHIFT being 1 .. 10");
        for (int shift = 1; shift <= 10; shift++) {
            int half = 1 << (shift - 1);
            times(shift, summing(0), 0);
            times(shift, summing(half - 1), 0);
            times(shift, summing(half), 1);
            times(shift, summing(3 * half - 1), 1);
            times(shift, summing(3 * half), 2);
            times(shift, summing(-half), 0);
            times(shift, summing(-half - 1), -1);
            times(shift, summing(-3 * half), -1);
            times(shift, summing(-3 * half - 1), -2);
        }
    }

    private static void timesClamps() {
        CHECK.part("CLAMP in TIMES");
        // 126, 127 and 128 times 2^SHIFT, and one below the next half.
        for (int shift = 1; shift <= 6; shift++) {
            int whole = 1 << shift;
            int half = whole / 2;
            times(shift, summing(126 * whole), 126);
            times(shift, summing(127 * whole - half - 1), 126);
            times(shift, summing(127 * whole - half), 127);
            times(shift, summing(128 * whole - half - 1), 127);
            times(shift, summing(128 * whole - half), 127);
            times(shift, summing(129 * whole - half), 127);
            times(shift, summing(-126 * whole - half), -126);
            times(shift, summing(-126 * whole - half - 1), -127);
            times(shift, summing(-127 * whole - half), -127);
            times(shift, summing(-127 * whole - half - 1), -127);
            times(shift, summing(-128 * whole - half - 1), -127);
        }
        times(6, row(64), 127);
        times(6, row(127), 127);
        times(6, row(-64), -127);
        times(6, row(-128), -127);
        times(1, row(127, -128, -128, 127, 127, -128), 127);
        times(1, row(-128, 127, 127, -128, -128, 127), -127);
    }

    private static void timesOfTheGreatestSums() {
        CHECK.part("TIMES of the greatest numbers");
        for (int shift : new int[] {1, 9, 10}) {
            // h is (127, -127, ..).
            Draft draft = new Draft(1, 1, 8, 4, 2, 0, shift);
            for (int i = 0; i < 8; i++) {
                boolean up = i % 2 == 0;
                draft.meanings[0][i] = up ? 127 : -128;
                draft.places[0][i] = up ? 127 : -127;
                draft.squares[0][1][0][i] = up ? 127 : -128;
                draft.squares[0][1][1][i] = up ? -128 : 127;
                draft.squares[0][1][2][i] = up ? 127 : -127;
                draft.squares[0][1][3][i] = up ? -127 : 127;
            }
            Draft.even(draft.first[0], 127);
            CachedSpeaker x = draft.speaker(0);
            x.begin();
            // 4 * 127 * 127 + 4 * 128 * 127; 130052 and -129028 by 1024 are 127 and -127 without CLAMP.
            CHECK.same("129540 with SHIFT " + shift, x.kept(0, 0, 0, 0), 127);
            CHECK.same("-129540 with SHIFT " + shift, x.kept(0, 0, 0, 1), -127);
            // 8 * 127 * 127; 129544 and -128520 by 1024 are 126 and -126.
            CHECK.same("129032 with SHIFT " + shift, x.kept(0, 0, 0, 2), shift == 10 ? 126 : 127);
            CHECK.same("-129032 with SHIFT " + shift, x.kept(0, 0, 0, 3), shift == 10 ? -126 : -127);
        }
    }

    // ---- attention

    /** Position 0 is ahead of position 1 by d, and has the value 0; position 1 has the value 127. */
    private static void behindBy(int d, int due) {
        new Lens(2).ask(16).key(0, d, 0).values(0, 127).putsOut(CHECK, "a distance of " + d, due);
        new Lens(2).ask(16).key(0, 0, -d).values(0, 127).putsOut(CHECK, "a distance of " + d + " from 0 down", due);
    }

    private static void fadeOfTheFirstNumbers() {
        CHECK.part("FADE(d): z = d / 11, r = d % 11");
        // e is FADE(d), f = 256 * e / (1024 + e), out = (127 * f + 128) / 256.
        behindBy(0, 64);    // 1024, 128
        behindBy(1, 62);    // 967, 124
        behindBy(2, 60);    // 912, 120
        behindBy(9, 46);    // 583, 92
        behindBy(10, 44);   // 544, 88
        behindBy(11, 42);   // 512, 85
        behindBy(12, 41);   // 483, 82
        behindBy(21, 26);   // 272, 53
        behindBy(22, 25);   // 256, 51
        behindBy(23, 24);   // 241, 48: (6096 + 128) / 256
        behindBy(32, 15);   // 136, 30: (3810 + 128) / 256
        behindBy(33, 14);   // 128, 28
        behindBy(43, 7);    // 68, 15: (1905 + 128) / 256
    }

    /** Position 0 with the value 127 is ahead of all eleven others, whose value is 0, by d. */
    private static void aheadOfElevenBy(int d, int due) {
        new Lens(12).ask(16).key(0, d, 0).values(127, 0).putsOut(CHECK, "a distance of " + d + " to eleven", due);
    }

    private static void fadeOfTheLastNumbers() {
        CHECK.part("FADE(d) at z = 9, 10 and 11");
        // f = 256 * 1024 / (1024 + 11 * e); out = (127 * f + 128) / 256.
        aheadOfElevenBy(87, 122);    // z = 7, r = 10: 4, 245
        aheadOfElevenBy(88, 122);    // z = 8, r = 0: 4, 245
        aheadOfElevenBy(89, 123);    // z = 8, r = 1: 3, 248
        aheadOfElevenBy(98, 124);    // z = 8, r = 10: 2, 250
        aheadOfElevenBy(99, 124);    // z = 9, r = 0: 2, 250
        aheadOfElevenBy(100, 126);   // z = 9, r = 1: 1, 253
        aheadOfElevenBy(109, 126);   // z = 9, r = 10: 1, 253
        aheadOfElevenBy(110, 126);   // z = 10, r = 0: 1, 253
        aheadOfElevenBy(111, 127);   // z = 10, r = 1: 0, 256
        aheadOfElevenBy(120, 127);   // z = 10, r = 10: 0
        aheadOfElevenBy(121, 127);   // z = 11, r = 0: 0
        aheadOfElevenBy(122, 127);
        aheadOfElevenBy(127, 127);
    }

    private static void fadeIsNothingFarOff() {
        CHECK.part("FADE(d): 0 when z is above 10, also where a shift by z would come round again");
        // All four numbers of the head ask: the distance is the sum of four keys, or twice that.
        for (int d = 340; d <= 380; d++) {
            Lens lens = new Lens(12).ask(16, 16, 16, 16).values(127, 0);
            lens.key(0, d / 4, 0).key(1, d / 4, 0).key(2, d / 4, 0).key(3, d - 3 * (d / 4), 0);
            lens.putsOut(CHECK, "a distance of " + d, 127);
        }
        for (int d = 700; d <= 720; d += 2) {
            Lens lens = new Lens(12).ask(32, 32, 32, 32).values(127, 0);
            lens.key(0, d / 8, 0).key(1, d / 8, 0).key(2, d / 8, 0).key(3, d / 2 - 3 * (d / 8), 0);
            lens.putsOut(CHECK, "a distance of " + d, 127);
        }
        // 4 * 127 * 127 / 16 = 4032 ahead of 0, and 2000 ahead of -2032.
        Lens farthest = new Lens(12).ask(127, 127, 127, 127).values(127, 0);
        farthest.key(0, 127, 0).key(1, 127, 0).key(2, 127, 0).key(3, 127, 0);
        farthest.putsOut(CHECK, "the score 4032", 127);
        Lens below = new Lens(12).ask(127, 127, 127, 127).values(127, 0);
        below.key(0, 63, -64).key(1, 63, -64).key(2, 63, -64).key(3, 63, -64);
        below.putsOut(CHECK, "the scores 2000 and -2032", 127);
    }

    private static void scoresAreFloored() {
        CHECK.part("sj = FLOOR(the sum, 16)");
        int[][] cases = {
            {0, 64}, {1, 64}, {15, 64},       // 0: f is 128
            {16, 62}, {31, 62}, {32, 60},     // 1, 1, 2 ahead
            {-1, 65}, {-15, 65}, {-16, 65},   // -1: f = 256 * 1024 / 1991 = 131
            {-17, 67}, {-32, 67}, {-33, 69},  // -2: 135; -3 (859): 139
        };
        for (int[] one : cases) {
            new Lens(2).ask(1).key(0, one[0], 0).values(0, 127).putsOut(CHECK, "the sum " + one[0], one[1]);
        }
        // The sum of all numbers is floored, not each of them: 4 * 4 is 16, 4 * 15 is 60.
        new Lens(2).ask(1, 1, 1, 1).key(0, 4, 0).key(1, 4, 0).key(2, 4, 0).key(3, 4, 0).values(0, 127)
            .putsOut(CHECK, "the sum 16 of four", 62);
        new Lens(2).ask(1, 1, 1, 1).key(0, 4, 0).key(1, 4, 0).key(2, 4, 0).key(3, 3, 0).values(0, 127)
            .putsOut(CHECK, "the sum 15 of four", 64);
    }

    private static void outIsFloored() {
        CHECK.part("out = FLOOR(the sum + 128, 256)");
        // Two positions, f = 128: 128 * (v + v') + 128 by 256.
        int[][] two = {{0, 0, 0}, {1, 0, 1}, {0, 1, 1}, {2, 0, 1}, {3, 0, 2}, {-1, 0, 0}, {0, -1, 0}, {-2, 0, -1}, {-3, 0, -1},
            {-4, 0, -2}, {63, 64, 64}, {-63, -64, -63}, {-64, -63, -63}, {60, -61, 0}, {60, -62, -1}, {127, 0, 64}, {-127, 0, -63}};
        for (int[] v : two) {
            new Lens(2).values(v[0], v[1]).putsOut(CHECK, "values " + v[0] + ", " + v[1], v[2]);
        }
        // Three positions, f = 256 / 3 = 85: 85 * (v + 2 * v') + 128 by 256.
        int[][] three = {{0, 0, 0}, {1, 0, 0}, {2, 0, 1}, {4, 0, 1}, {5, 0, 2}, {-1, 0, 0}, {-2, 0, -1}, {-4, 0, -1}, {-5, 0, -2},
            {0, 1, 1}, {0, -1, -1}, {1, -1, 0}, {-1, 1, 0}, {-63, -64, -63}, {63, 64, 63},
            // 85 * 131 + 128 = 43 * 256 + 255; 85 * -125 + 128 = -42 * 256 + 255.
            {31, 50, 43}, {-25, -50, -42}};
        for (int[] v : three) {
            new Lens(3).values(v[0], v[1]).putsOut(CHECK, "three positions, values " + v[0] + ", " + v[1], v[2]);
        }
        // Twelve positions, f = 21: all that is given is 252 of 256.
        new Lens(12).values(0, 127).putsOut(CHECK, "twelve positions, values 0, 127", 115);
        new Lens(12).values(0, -127).putsOut(CHECK, "twelve positions, values 0, -127", -115);
        new Lens(12).values(127, 0).putsOut(CHECK, "twelve positions, values 127, 0", 10);
    }

    private static void onePositionAlone() {
        CHECK.part("for each position j from 0 to p: p is 0");
        for (int v : new int[] {-127, -126, -1, 0, 1, 126, 127}) {
            new Lens(1).values(v, 0).putsOut(CHECK, "the value " + v + " alone", v);
            new Lens(1).ask(127).key(0, 127, 0).values(v, 0).putsOut(CHECK, "the value " + v + " alone, asked for", v);
            new Lens(1).ask(127).key(0, -127, 0).values(v, 0).putsOut(CHECK, "the value " + v + " alone, not asked for", v);
        }
    }

    // ---- mixing

    /** x is (1, -1, 1, -1), h of the mixing 32 times that, and the sums of the tokens 1 .. 4 are y at last. */
    private static Draft mixing(int inner, int shift) {
        Draft draft = new Draft(1, 1, 4, inner, 2, 0, shift);
        Draft.set(draft.places[0], 1, -1, 1, -1);
        Draft.even(draft.second[0], 64);
        seeY(draft);
        return draft;
    }

    private static void seeY(Draft draft) {
        for (int i = 0; i < 4; i++) {
            draft.meanings[1 + i][i] = 1;
        }
        Draft.even(draft.last, 64);
    }

    private static void ys(Draft draft, String what, int... due) {
        CachedSpeaker x = draft.speaker(0);
        x.begin();
        for (int i = 0; i < due.length; i++) {
            CHECK.same(what + ", number " + i + " of y", x.sum(1 + i), due[i]);
        }
    }

    /**
     * u is (a, c, d, 0); with BEND(c) = c and BEND(d) = d the first number of x changes by BEND(a) - c + d,
     * which is made to be 0.
     */
    private static void bend(int a, int due) {
        int d = due <= 67 ? 60 : 0;
        Draft draft = mixing(4, 5);
        draft.up[0][0][0] = a;
        draft.up[0][1][0] = due + d;
        draft.up[0][2][0] = d;
        Draft.set(draft.down[0][0], 32, -32, 32);
        ys(draft, "BEND(" + a + ") is " + due, 32, -32, 32, -32);
    }

    private static void bendAtItsEnds() {
        CHECK.part("BEND(a): b is 0 when a + 48 is below 0, 96 when it is above 96");
        int[][] dues = {{-127, 0}, {-126, 0}, {-96, 0}, {-51, 0}, {-50, 0}, {-49, 0}, {-48, 0},
            // -47 * 1, -46 * 2, -45 * 3, -25 * 23, -24 * 24, -23 * 25, -2 * 46, -1 * 47 by 96.
            {-47, -1}, {-46, -1}, {-45, -2}, {-25, -6}, {-24, -6}, {-23, -6}, {-2, -1}, {-1, -1}, {0, 0},
            // 1 * 49, 2 * 50, 46 * 94, 47 * 95 by 96; from 48 on it is a.
            {1, 0}, {2, 1}, {46, 45}, {47, 46}, {48, 48}, {49, 49}, {50, 50}, {51, 51}, {96, 96}, {126, 126}, {127, 127}};
        for (int[] one : dues) {
            bend(one[0], one[1]);
        }
    }

    private static void bendOfAllNumbers() {
        CHECK.part("BEND(a), for all a that TIMES can answer");
        for (int a = -127; a <= 127; a++) {
            int b = a < -48 ? 0 : a > 48 ? 96 : a + 48;
            int whole = a * b / 96;
            bend(a, whole * 96 > a * b ? whole - 1 : whole);
        }
    }

    private static void mixingClamps() {
        CHECK.part("CLAMP in TIMES(UP, ..) and TIMES(DOWN, ..)");
        // The first of u is 254 before CLAMP, the second 127; DOWN takes the one from the other.
        Draft draft = mixing(4, 5);
        Draft.set(draft.up[0][0], 127, -127);
        draft.up[0][1][0] = 127;
        Draft.set(draft.down[0][0], 32, -32);
        ys(draft, "127 - 127", 32, -32, 32, -32);
        // 127 * 127 by 32 is 504, which becomes 127: x = (128, -1, 1, -1), m = 31, over it (97, -32, -30, -32),
        // (9409 + 1024 + 900 + 1024) / 4 = 3089, s = 55, y = 6208, -2048, -1920, -2048 by 56.
        Draft.set(draft.down[0][0], 127, 0);
        ys(draft, "127 and not 504", 110, -37, -35, -37);
        // -127 * 127 by 32 becomes -127: x = (-126, -1, 1, -1), m = -32, over it (-94, 31, 33, 31),
        // (8836 + 961 + 1089 + 961) / 4 = 2961, s = 54, y = -6016, 1984, 2112, 1984 by 55.
        Draft.set(draft.down[0][0], -127, 0);
        ys(draft, "-127 and not -504", -110, 36, 38, 36);
    }

    private static void mostInnerNumbers() {
        CHECK.part("INNER 16: all of them are mixed, the last one too");
        // h = (63, 64, 63, 64); u = (127 * 254 + 512) / 1024 = 32; BEND(32) = 32 * 80 / 96 = 26.
        Draft draft = mixing(16, 10);
        Draft.set(draft.second[0], 127, -128, 127, -128);
        for (int r = 0; r < 16; r++) {
            Draft.even(draft.up[0][r], 127);
        }
        // 16 * 26 * 127 + 512 by 1024 is 52: x = (53, -1, 1, -1), m = 13, over it (40, -14, -12, -14),
        // (1600 + 196 + 144 + 196) / 4 = 534, s = 23, y = 2560, -896, -768, -896 by 24.
        Draft.even(draft.down[0][0], 127);
        ys(draft, "all sixteen", 106, -38, -32, -38);
        // 26 * 127 + 512 by 1024 is 3: x = (4, -1, 1, -1), m = 0,
        // (16 + 1 + 1 + 1) / 4 = 4, s = 2, y = 256, -64, 64, -64 by 3.
        Draft.even(draft.down[0][0], 0);
        draft.down[0][0][15] = 127;
        ys(draft, "the sixteenth alone", 85, -22, 21, -22);
    }

    private static void xIsNotClamped() {
        CHECK.part("x becomes x + ..: without CLAMP");
        Draft draft = Draft.small(2, 0, 1);
        Draft.set(draft.meanings[0], 127, -128, 127, -128);
        Draft.set(draft.places[0], 127, -128, 127, -128);
        Draft.even(draft.first[0], 64);
        Draft.even(draft.second[0], 64);
        seeY(draft);
        // OUT brings 127: x = (381, -256, 254, -256), m = 30, over it (351, -286, 224, -286),
        // 336969 / 4 = 84242, s = 290, y = 22464, -18304, 14336, -18304 by 291.
        draft.squares[0][2][0][0] = 127;
        draft.squares[0][3][0][0] = 127;
        ys(draft, "127 by OUT", 77, -63, 49, -63);
        // DOWN brings 127 more: x = (508, -256, 254, -256), m = 62, over it (446, -318, 192, -318),
        // (198916 + 101124 + 36864 + 101124) / 4 = 109507, s = 330, y = 28544, -20352, 12288, -20352 by 331.
        draft.up[0][0][0] = 127;
        draft.down[0][0][0] = 127;
        ys(draft, "127 by OUT and DOWN", 86, -62, 37, -62);
    }

    private static void sumsAtTheirEnds() {
        CHECK.part("the sum of a token: the greatest and the least there can be");
        Draft draft = new Draft(1, 1, 8, 4, 2, 0, 1);
        for (int i = 0; i < 8; i++) {
            boolean up = i % 2 == 0;
            draft.meanings[0][i] = up ? 127 : -128;
            draft.places[0][i] = up ? 127 : -127;
            draft.meanings[1][i] = up ? -128 : 127;
            draft.meanings[2][i] = -128;
            draft.meanings[3][i] = up ? 127 : -127;
            draft.meanings[4][i] = up ? 127 : 0;
            draft.meanings[5][i] = up ? 0 : -128;
        }
        Draft.even(draft.last, 127);
        CachedSpeaker x = draft.speaker(0);
        x.begin();
        // y is (127, -127, ..).
        int[] due = {129540, -129540, 0, 129032, 64516, 65024, 0, 0};
        for (int t = 0; t < 8; t++) {
            CHECK.same("sum(" + t + ")", x.sum(t), due[t]);
        }
        CHECK.same("next()", x.next(), 0);
    }
}
