import java.util.Arrays;

/** The boundary cases of a run and its steps, and of the promises 11 to 18, a part for each sentence. */
public final class RunEdgesTest {
    private static final int LEAST = Integer.MIN_VALUE;
    private static final int GREATEST = Integer.MAX_VALUE;
    private static final Check CHECK = new Check("RunEdgesTest");

    public static void main(String[] args) {
        beginWithoutAModel();
        beginWithNoneOrTooMany();
        beginCountsTokens();
        beginInPlaceOfAnother();
        theLeastOfSeveral();
        theGreatestBelowZero();
        stopEndsTheRun();
        contextEndsTheRun();
        stopInThePrompt();
        nextWithoutARun();
        goTakesTheseNumbers();
        goUntilTheEnd();
        goWithoutARun();
        outputsThatThereAre();
        takenAndRunning();
        sumsOfKnownTokens();
        sumsOfTheLastTakenIn();
        keptNumbersThatThereAre();
        keptNumbersStay();
        theRunHasTokensOfItsOwn();
        allFiveHundredAndTwelveCalls();
        CHECK.end();
    }

    /**
     * What comes behind position p is token said[p]: the layers do nothing, token t has a 1 as its number t,
     * and place p has a 100 as its number said[p], which is the greatest of y then.
     */
    private static Draft saying(int stop, int... said) {
        Draft draft = new Draft(1, 1, 8, 4, said.length, stop, 1);
        for (int t = 0; t < 8; t++) {
            draft.meanings[t][t] = 1;
        }
        for (int p = 0; p < said.length; p++) {
            draft.places[p][said[p]] = 100;
        }
        Draft.even(draft.last, 64);
        return draft;
    }

    private static int[] times(int n, int number) {
        int[] row = new int[n];
        Arrays.fill(row, number);
        return row;
    }

    /** The token at each position is 1, 2, .. and never 0, which is left for STOP. */
    private static int[] counting(int n) {
        int[] row = new int[n];
        for (int p = 0; p < n; p++) {
            row[p] = 1 + p % 7;
        }
        return row;
    }

    // ---- promise 11

    private static void beginWithoutAModel() {
        CHECK.part("promise 11: IllegalStateException: there is no model, and it is named first");
        CachedSpeaker x = new CachedSpeaker();
        for (int count = 0; count <= 24; count++) {
            CHECK.same("begin() with " + count + " symbols", Check.outcome(x::begin), Check.STATE);
            CHECK.same("running()", x.running(), false);
            CHECK.same("taken()", x.taken(), 0);
            x.type(0);
        }
    }

    private static void beginWithNoneOrTooMany() {
        CHECK.part("promise 11: IllegalArgumentException: the prompt has no token, or more than CONTEXT");
        for (int context = 2; context <= 12; context++) {
            CachedSpeaker x = saying(0, counting(context)).speaker();
            CHECK.same("begin() with no token, CONTEXT " + context, Check.outcome(x::begin), Check.ARGUMENT);
            CHECK.same("running()", x.running(), false);
            for (int count = 1; count <= 24; count++) {
                x.type(count % 8);
                long due = count <= context ? count : Check.ARGUMENT;
                CHECK.same("begin() with " + count + " tokens, CONTEXT " + context, Check.outcome(x::begin), due);
                CHECK.same("taken()", x.taken(), Math.min(count, context));
                CHECK.same("running()", x.running(), true);
            }
            x.erase();
            CHECK.same("begin() after erase", Check.outcome(x::begin), Check.ARGUMENT);
            CHECK.same("taken(), the run before stays", x.taken(), context);
        }
    }

    private static void beginCountsTokens() {
        CHECK.part("promise 11: tokens, not symbols");
        int[][] pairs = {{0, 0}, {8, 8}, {9, 9}};
        // Of 24 zeros three tokens are made, of 20 also three, of 21 four.
        CachedSpeaker x = Draft.small(3, 0, 1, pairs).speaker(times(24, 0));
        CHECK.same("begin() with 24 symbols and 3 tokens", x.begin(), 3);
        x = Draft.small(2, 0, 1, pairs).speaker(times(24, 0));
        CHECK.same("begin() with 3 tokens, CONTEXT 2", Check.outcome(x::begin), Check.ARGUMENT);
        x = Draft.small(3, 0, 1, pairs).speaker(times(20, 0));
        CHECK.same("begin() with 20 symbols and 3 tokens", x.begin(), 3);
        x.type(0);
        CHECK.same("begin() with 21 symbols and 4 tokens", Check.outcome(x::begin), Check.ARGUMENT);
        x = Draft.small(12, 0, 1, new int[][] {{0, 0}}).speaker(times(24, 0));
        CHECK.same("begin() with 24 symbols and 12 tokens", x.begin(), 12);
        x = Draft.small(12, 0, 1, new int[][] {{0, 0}}).speaker(times(23, 0));
        CHECK.same("begin() with 23 symbols and 12 tokens", x.begin(), 12);
        x = Draft.small(11, 0, 1, new int[][] {{0, 0}}).speaker(times(23, 0));
        CHECK.same("begin() with 12 tokens, CONTEXT 11", Check.outcome(x::begin), Check.ARGUMENT);
    }

    private static void beginInPlaceOfAnother() {
        CHECK.part("promise 11: a run begins, in place of another one, with nothing put out");
        for (int steps = 0; steps <= 4; steps++) {
            CachedSpeaker x = saying(0, 1, 2, 3, 4).speaker(5);
            x.begin();
            for (int k = 0; k < steps; k++) {
                x.next();
            }
            CHECK.same("begin() after " + steps + " steps", x.begin(), 1);
            CHECK.same("taken()", x.taken(), 1);
            CHECK.same("running()", x.running(), true);
            for (int i = 0; i < 5; i++) {
                CHECK.none("output(" + i + ")", x.output(i));
            }
            CHECK.none("kept(0, 1, 0, 0)", x.kept(0, 1, 0, 0));
            CHECK.same("go(20)", x.go(20), 4);
            CHECK.same("output(3)", x.output(3), 4);
        }
        // A run of fewer tokens after one of more.
        CachedSpeaker x = saying(0, 1, 2, 3, 4).speaker(5, 5, 5, 5);
        CHECK.same("begin() with four", x.begin(), 4);
        x.erase();
        x.type(6);
        CHECK.same("begin() with one", x.begin(), 1);
        CHECK.same("taken()", x.taken(), 1);
        CHECK.same("next(), by position 0", x.next(), 1);
    }

    // ---- a step

    /** All tokens with these numbers have the meaning 1, 0, 0, 0; y begins with 96, or with -64. */
    private static int stepAmong(boolean above, int... tokens) {
        Draft draft = Draft.small(2, 0, 1, new int[8][2]);
        for (int t : tokens) {
            draft.meanings[t][0] = 1;
        }
        Draft.set(draft.places[0], above ? 30 : -30);
        Draft.even(draft.last, 64);
        CachedSpeaker x = draft.speaker(7);
        x.begin();
        CHECK.same("sum(" + tokens[0] + ") is " + (above ? "above" : "below") + " 0", x.sum(tokens[0]) > 0, above);
        return x.next();
    }

    private static void theLeastOfSeveral() {
        CHECK.part("a step: the token with the greatest sum (of several the least one)");
        for (int a = 0; a < 16; a++) {
            CHECK.same("next() when " + a + " is alone", stepAmong(true, a), a);
            CHECK.same("next() when all but " + a + " are 0", stepAmong(false, a), a == 0 ? 1 : 0);
            for (int b = a + 1; b < 16; b++) {
                CHECK.same("next() of " + a + " and " + b, stepAmong(true, b, a), a);
            }
        }
        CHECK.same("next() of the last three", stepAmong(true, 15, 13, 14), 13);
        CHECK.same("next() of all", stepAmong(true, 0, 1, 2, 3, 4, 5, 6, 7, 8, 9, 10, 11, 12, 13, 14, 15), 0);
        CHECK.same("next() of the only one that is not below 0",
            stepAmong(false, 0, 1, 2, 3, 4, 5, 6, 7, 8, 9, 10, 11, 12, 13, 14), 15);
        // With no merges there are eight tokens alone, all with the sum 0.
        CachedSpeaker x = Draft.small(2, 7, 1).speaker(3);
        x.begin();
        CHECK.same("next() of eight zeros", x.next(), 0);
    }

    private static void theGreatestBelowZero() {
        CHECK.part("a step: when all sums are below 0");
        for (int best = 0; best < 8; best++) {
            Draft draft = Draft.small(2, (best + 1) % 8, 1);
            for (int t = 0; t < 8; t++) {
                draft.meanings[t][0] = t == best ? -1 : -2;
            }
            Draft.set(draft.places[0], 100);
            Draft.even(draft.last, 64);
            CachedSpeaker x = draft.speaker(0);
            x.begin();
            CHECK.same("sum(" + best + ") is below 0", x.sum(best) < 0, true);
            CHECK.same("next()", x.next(), best);
        }
    }

    private static void stopEndsTheRun() {
        CHECK.part("a step: if it is STOP, the run has ended");
        for (int stop = 0; stop < 8; stop++) {
            int other = (stop + 1) % 8;
            for (int at = 0; at < 4; at++) {
                int[] said = times(4, other);
                said[at] = stop;
                CachedSpeaker x = saying(stop, said).speaker(other);
                x.begin();
                for (int k = 0; k < at; k++) {
                    CHECK.same("next()", x.next(), other);
                    CHECK.same("running()", x.running(), true);
                }
                CHECK.same("next(), STOP " + stop, x.next(), stop);
                CHECK.same("running() after STOP", x.running(), false);
                CHECK.same("taken(), STOP was not taken in", x.taken(), 1 + at);
                CHECK.same("output(), STOP was put out", x.output(at), stop);
                CHECK.none("output(), and nothing behind it", x.output(at + 1));
                CHECK.none("kept(), nothing of STOP", x.kept(0, 1 + at, 0, 0));
                CHECK.same("next() after STOP", Check.outcome(x::next), Check.STATE);
                CHECK.same("go(1) after STOP", Check.outcome(() -> x.go(1)), Check.STATE);
            }
        }
        // The last token of all can be STOP too.
        Draft draft = Draft.small(4, 15, 1, new int[8][2]);
        draft.meanings[15][0] = 1;
        Draft.set(draft.places[0], 30);
        Draft.even(draft.last, 64);
        CachedSpeaker x = draft.speaker(7);
        x.begin();
        CHECK.same("next(), STOP 15", x.next(), 15);
        CHECK.same("running() after STOP 15", x.running(), false);
    }

    private static void contextEndsTheRun() {
        CHECK.part("a step: or as many tokens as CONTEXT were taken in, the run has ended");
        for (int context = 2; context <= 12; context++) {
            for (int count = 1; count <= context; count++) {
                CachedSpeaker x = saying(0, counting(context)).speaker(times(count, 3));
                CHECK.same("begin()", x.begin(), count);
                for (int p = count; p <= context; p++) {
                    CHECK.same("running() with " + p + " of " + context, x.running(), true);
                    CHECK.same("taken()", x.taken(), p);
                    CHECK.same("next()", x.next(), 1 + (p - 1) % 7);
                }
                CHECK.same("running() behind the last", x.running(), false);
                CHECK.same("taken(), the last one was not taken in", x.taken(), context);
                CHECK.same("output()", x.output(context - count), 1 + (context - 1) % 7);
                CHECK.none("output()", x.output(context - count + 1));
                CHECK.same("next() behind the last", Check.outcome(x::next), Check.STATE);
                CHECK.same("running()", x.running(), false);
                CHECK.same("taken()", x.taken(), context);
            }
        }
    }

    private static void stopInThePrompt() {
        CHECK.part("a run takes the tokens of the prompt in, STOP too");
        CachedSpeaker x = saying(3, 1, 1, 1, 1).speaker(3, 3, 3);
        CHECK.same("begin()", x.begin(), 3);
        CHECK.same("running()", x.running(), true);
        CHECK.same("next()", x.next(), 1);
        CHECK.same("running()", x.running(), true);
        // STOP as the last that there is room for, and STOP when there is no more room.
        x = saying(3, 1, 3).speaker(0);
        x.begin();
        CHECK.same("next()", x.next(), 1);
        CHECK.same("next(), STOP without room", x.next(), 3);
        CHECK.same("running()", x.running(), false);
        CHECK.same("taken()", x.taken(), 2);
    }

    // ---- promises 12 and 13

    private static void nextWithoutARun() {
        CHECK.part("promise 12: IllegalStateException: there is no run, or it has ended");
        CHECK.same("next() without a model", Check.outcome(new CachedSpeaker()::next), Check.STATE);
        CachedSpeaker x = saying(0, 1, 2).speaker(1);
        CHECK.same("next() without a run", Check.outcome(x::next), Check.STATE);
        x.begin();
        CHECK.same("next()", x.next(), 1);
        CHECK.same("next()", x.next(), 2);
        for (int k = 0; k < 5; k++) {
            CHECK.same("next() after the end", Check.outcome(x::next), Check.STATE);
        }
        x.load();
        CHECK.same("next() after load", Check.outcome(x::next), Check.STATE);
        x.erase();
        CHECK.same("begin() that throws", Check.outcome(x::begin), Check.ARGUMENT);
        CHECK.same("next() after it", Check.outcome(x::next), Check.STATE);
    }

    private static void goTakesTheseNumbers() {
        CHECK.part("promise 13: IllegalArgumentException: n is not 1 .. 20, and it is named first");
        int[] wrong = {LEAST, LEAST + 1, LEAST + 20, -20, -2, -1, 0, 21, 22, 40, 256, 257, GREATEST - 1, GREATEST};
        CachedSpeaker bare = new CachedSpeaker();
        CachedSpeaker without = saying(0, 1, 2).speaker(1);
        CachedSpeaker ended = saying(0, 1, 2).speaker(1);
        ended.begin();
        ended.go(20);
        for (int n : wrong) {
            CHECK.same("go(" + n + ") without a model", Check.outcome(() -> bare.go(n)), Check.ARGUMENT);
            CHECK.same("go(" + n + ") without a run", Check.outcome(() -> without.go(n)), Check.ARGUMENT);
            CHECK.same("go(" + n + ") after the end", Check.outcome(() -> ended.go(n)), Check.ARGUMENT);
            CachedSpeaker x = saying(0, 1, 2).speaker(1);
            x.begin();
            CHECK.same("go(" + n + ")", Check.outcome(() -> x.go(n)), Check.ARGUMENT);
            CHECK.same("taken() after go(" + n + ")", x.taken(), 1);
            CHECK.none("output(0) after go(" + n + ")", x.output(0));
        }
    }

    private static void goUntilTheEnd() {
        CHECK.part("promise 13: steps, n or until the run has ended");
        for (int n = 1; n <= 20; n++) {
            CachedSpeaker x = saying(0, counting(12)).speaker(1);
            x.begin();
            int due = Math.min(n, 12);
            CHECK.same("go(" + n + ") to CONTEXT 12", x.go(n), due);
            CHECK.same("taken()", x.taken(), Math.min(1 + n, 12));
            CHECK.same("running()", x.running(), n < 12);
            CHECK.same("output(), the last", x.output(due - 1), 1 + (due - 1) % 7);
            CHECK.none("output(), one more", x.output(due));
            int left = n < 12 ? 12 - n : 0;
            CHECK.same("go(20) then", Check.outcome(() -> x.go(20)), left > 0 ? left : Check.STATE);
            // STOP comes as the fifth.
            CachedSpeaker stopping = saying(0, 1, 2, 3, 4, 0, 5, 6).speaker(1);
            stopping.begin();
            CHECK.same("go(" + n + ") to STOP", stopping.go(n), Math.min(n, 5));
            CHECK.same("running()", stopping.running(), n < 5);
        }
        // One step is left: the prompt has filled CONTEXT.
        CachedSpeaker full = saying(0, 1, 2).speaker(1, 1);
        full.begin();
        CHECK.same("go(20) of a run without room", full.go(20), 1);
        CHECK.same("output(0)", full.output(0), 2);
    }

    private static void goWithoutARun() {
        CHECK.part("promise 13: IllegalStateException: there is no run, or it has ended");
        for (int n = 1; n <= 20; n++) {
            int steps = n;
            CHECK.same("go(" + n + ") without a model", Check.outcome(() -> new CachedSpeaker().go(steps)), Check.STATE);
            CachedSpeaker x = saying(0, 1, 2).speaker(1);
            CHECK.same("go(" + n + ") without a run", Check.outcome(() -> x.go(steps)), Check.STATE);
            x.begin();
            x.go(2);
            CHECK.same("go(" + n + ") after the end", Check.outcome(() -> x.go(steps)), Check.STATE);
            x.load();
            CHECK.same("go(" + n + ") after load", Check.outcome(() -> x.go(steps)), Check.STATE);
        }
    }

    // ---- promises 14 to 16

    private static void outputsThatThereAre() {
        CHECK.part("promise 14: NONE when there is no run, or no such token");
        int[] far = {LEAST, LEAST + 1, -13, -1, 13, 14, 20, 21, 512, GREATEST - 1, GREATEST};
        CachedSpeaker x = saying(0, counting(12)).speaker(4);
        for (int i = -1; i <= 13; i++) {
            CHECK.none("output(" + i + ") without a model", new CachedSpeaker().output(i));
            CHECK.none("output(" + i + ") without a run", x.output(i));
        }
        x.begin();
        for (int steps = 0; steps <= 12; steps++) {
            for (int i = -1; i <= 13; i++) {
                int due = i >= 0 && i < steps ? 1 + i % 7 : CachedSpeaker.NONE;
                CHECK.same("output(" + i + ") after " + steps + " steps", x.output(i), due);
            }
            for (int i : far) {
                CHECK.none("output(" + i + ") after " + steps + " steps", x.output(i));
            }
            if (steps < 12) {
                x.next();
            }
        }
    }

    private static void takenAndRunning() {
        CHECK.part("promises 15, 16: 0 and false when there is no run");
        CachedSpeaker x = saying(0, 1, 2, 3).speaker(1);
        CHECK.same("taken() without a run", x.taken(), 0);
        CHECK.same("running() without a run", x.running(), false);
        x.begin();
        CHECK.same("taken()", x.taken(), 1);
        CHECK.same("running()", x.running(), true);
        x.go(2);
        CHECK.same("taken(), as many as CONTEXT", x.taken(), 3);
        CHECK.same("running(), a step is left", x.running(), true);
        x.go(1);
        CHECK.same("taken() of the run that has ended", x.taken(), 3);
        CHECK.same("running(), it has ended", x.running(), false);
        x.size(0);
        x.load();
        CHECK.same("taken(), load was refused", x.taken(), 3);
        x.size(saying(0, 1, 2, 3).bytes().length);
        x.load();
        CHECK.same("taken() after load", x.taken(), 0);
        CHECK.same("running() after load", x.running(), false);
    }

    // ---- promise 17

    private static void sumsOfKnownTokens() {
        CHECK.part("promise 17: NONE when there is no run or no such token");
        int[] far = {LEAST, LEAST + 1, -128, -2, -1, 16, 17, 127, 128, 256, GREATEST - 1, GREATEST};
        for (int merges = 0; merges <= 8; merges++) {
            CachedSpeaker x = Draft.small(2, 0, 1, new int[merges][2]).speaker(0);
            for (int t = -1; t <= 16; t++) {
                CHECK.none("sum(" + t + ") without a run", x.sum(t));
            }
            x.begin();
            for (int t = -1; t <= 16; t++) {
                int due = t >= 0 && t <= 7 + merges ? 0 : CachedSpeaker.NONE;
                CHECK.same("sum(" + t + ") with MERGES " + merges, x.sum(t), due);
            }
            for (int t : far) {
                CHECK.none("sum(" + t + ") with MERGES " + merges, x.sum(t));
            }
        }
        CHECK.none("sum(0) without a model", new CachedSpeaker().sum(0));
    }

    private static void sumsOfTheLastTakenIn() {
        CHECK.part("promise 17: of what was taken in last");
        CachedSpeaker x = saying(0, 1, 2, 3, 4).speaker(7, 7);
        x.begin();
        // Of a prompt it is its last token: at place 1 number 2 is the greatest.
        greatestSum(x, 2);
        x.next();
        greatestSum(x, 3);
        x.next();
        greatestSum(x, 4);
        // The last one is put out and not taken in, so that the sums stay.
        CHECK.same("next()", x.next(), 4);
        CHECK.same("running()", x.running(), false);
        greatestSum(x, 4);
        CHECK.same("next()", Check.outcome(x::next), Check.STATE);
        greatestSum(x, 4);
        // And so for STOP.
        x = saying(5, 1, 5, 2).speaker(7);
        x.begin();
        x.go(20);
        greatestSum(x, 5);
    }

    private static void greatestSum(CachedSpeaker x, int due) {
        for (int t = 0; t < 8; t++) {
            CHECK.same("sum(" + t + ") is not above that of " + due, x.sum(t) > x.sum(due), false);
        }
        CHECK.same("sum(" + due + ") is 127", x.sum(due), 127);
    }

    // ---- promise 18

    private static void keptNumbersThatThereAre() {
        CHECK.part("promise 18: NONE when there is no run, no such layer, position or number, or what is neither");
        int[] far = {LEAST, LEAST + 1, -128, -2, 13, 127, 128, 256, 512, GREATEST - 1, GREATEST};
        for (int k = 0; k < 4; k++) {
            int layers = 1 + k % 2;
            int width = 4 + 4 * (k / 2);
            Draft draft = new Draft(layers, 1, width, 4, 3, 0, 1);
            CachedSpeaker without = draft.speaker(1, 1);
            CHECK.none("kept(0, 0, 0, 0) without a run", without.kept(0, 0, 0, 0));
            CHECK.none("kept(0, 0, 0, 0) without a model", new CachedSpeaker().kept(0, 0, 0, 0));
            for (int layer = -1; layer <= 2; layer++) {
                CachedSpeaker x = draft.speaker(1, 1);
                x.begin();
                for (int n = 0; n < 4 * 4 * 10; n++) {
                    int position = n % 4 - 1;
                    int what = n / 4 % 4 - 1;
                    int i = n / 16 - 1;
                    boolean there = layer >= 0 && layer < layers && position >= 0 && position < 2
                        && what >= 0 && what <= 1 && i >= 0 && i < width;
                    CHECK.same("kept(" + layer + ", " + position + ", " + what + ", " + i + ") of " + layers + " layers, width "
                        + width, x.kept(layer, position, what, i), there ? 0 : CachedSpeaker.NONE);
                }
            }
            CachedSpeaker x = draft.speaker(1, 1);
            x.begin();
            for (int wrong : far) {
                CHECK.none("kept(" + wrong + ", 0, 0, 0)", x.kept(wrong, 0, 0, 0));
                CHECK.none("kept(0, " + wrong + ", 0, 0)", x.kept(0, wrong, 0, 0));
                CHECK.none("kept(0, 0, " + wrong + ", 0)", x.kept(0, 0, wrong, 0));
                CHECK.none("kept(0, 0, 0, " + wrong + ")", x.kept(0, 0, 0, wrong));
                CHECK.none("kept(" + wrong + ", ..) throughout", x.kept(wrong, wrong, wrong, wrong));
            }
        }
    }

    /** Position p of layer 0 has the keys NORM(x) and the values below 0 of that, and so has layer 1. */
    private static void keptNumbersStay() {
        CHECK.part("promise 18: the keys and values of all positions, up to the last of CONTEXT 12");
        Draft draft = new Draft(2, 1, 4, 4, 12, 1, 6);
        for (int p = 0; p < 12; p++) {
            Draft.set(draft.places[p], 1 + p, -1 - p, 1 + p, -1 - p);
        }
        for (int layer = 0; layer < 2; layer++) {
            Draft.even(draft.first[layer], layer == 0 ? 64 : 32);
            Draft.slant(draft.squares[layer][1], 64);
            Draft.slant(draft.squares[layer][2], -64);
        }
        CachedSpeaker x = draft.speaker(0);
        x.begin();
        for (int taken = 1; taken <= 12; taken++) {
            for (int p = 0; p < 12; p++) {
                // a = 1 + p: NORM is 64 * a / (a + 1) and -64 * a / (a + 1), or half of them in layer 1.
                int above = 64 * (1 + p) / (2 + p);
                int below = Math.floorDiv(-64 * (1 + p), 2 + p);
                boolean there = p < taken;
                CHECK.same("kept(0, " + p + ", 0, 0) of " + taken, x.kept(0, p, 0, 0), there ? above : CachedSpeaker.NONE);
                CHECK.same("kept(0, " + p + ", 0, 3) of " + taken, x.kept(0, p, 0, 3), there ? below : CachedSpeaker.NONE);
                CHECK.same("kept(0, " + p + ", 1, 0) of " + taken, x.kept(0, p, 1, 0), there ? -above : CachedSpeaker.NONE);
                int half = Math.floorDiv(above * 32, 64);
                CHECK.same("kept(1, " + p + ", 0, 0) of " + taken, x.kept(1, p, 0, 0), there ? half : CachedSpeaker.NONE);
            }
            CHECK.none("kept(0, 12, 0, 0) of " + taken, x.kept(0, 12, 0, 0));
            x = taken == 6 ? freshRun(draft, 6) : x;
            CHECK.same("next()", x.next(), 0);
        }
        CHECK.same("running()", x.running(), false);
        CHECK.same("kept(0, 11, 0, 0) after the end", x.kept(0, 11, 0, 0), 64 * 12 / 13);
    }

    /** A new object at the same place, so that none is used for more than 512 calls. */
    private static CachedSpeaker freshRun(Draft draft, int taken) {
        CachedSpeaker x = draft.speaker(0);
        x.begin();
        for (int k = 1; k < taken; k++) {
            x.next();
        }
        return x;
    }

    // ---- what is no matter to a run, and the last call

    private static void theRunHasTokensOfItsOwn() {
        CHECK.part("a run: what is typed, erased or written later is not its own");
        CachedSpeaker x = saying(0, 1, 2, 3, 4).speaker(7);
        x.begin();
        x.type(3);
        CHECK.same("taken()", x.taken(), 1);
        CHECK.same("next()", x.next(), 1);
        x.erase();
        CHECK.same("taken()", x.taken(), 2);
        CHECK.same("next()", x.next(), 2);
        x.fill(0, 1500, 5);
        x.put(0, -1);
        x.size(0);
        CHECK.same("load() that is refused", x.load(), -11);
        CHECK.same("next()", x.next(), 3);
        CHECK.same("begin() without a token", Check.outcome(x::begin), Check.ARGUMENT);
        CHECK.same("next()", x.next(), 4);
        CHECK.same("running()", x.running(), false);
        for (int i = 0; i < 4; i++) {
            CHECK.same("output(" + i + ")", x.output(i), 1 + i);
        }
    }

    private static void allFiveHundredAndTwelveCalls() {
        CHECK.part("an object is used for at most 512 calls");
        byte[] bytes = saying(0, counting(12)).bytes();
        CachedSpeaker x = new CachedSpeaker();
        Draft.write(x, bytes);
        x.load();
        x.type(1);
        int calls = (bytes.length + 7) / 8 + 3;
        int runs = 0;
        while (calls + 14 <= 512) {
            CHECK.same("begin(), call " + calls, x.begin(), 1);
            for (int p = 0; p < 12; p++) {
                CHECK.same("next(), call " + calls, x.next(), 1 + p % 7);
            }
            CHECK.same("next() after the end, call " + calls, Check.outcome(x::next), Check.STATE);
            calls += 14;
            runs++;
        }
        while (calls < 512) {
            CHECK.same("output(11), call " + calls, x.output(11), 5);
            calls++;
        }
        CHECK.same("there were many runs", runs > 25, true);
    }
}
