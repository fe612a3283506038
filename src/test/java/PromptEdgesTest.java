import java.util.Arrays;

/** The boundary cases of the prompt, its tokens and their spelling, and of the promises 6 to 10. */
public final class PromptEdgesTest {
    private static final int LEAST = Integer.MIN_VALUE;
    private static final int GREATEST = Integer.MAX_VALUE;
    private static final Check CHECK = new Check("PromptEdgesTest");

    public static void main(String[] args) {
        typeTakesSymbols();
        typeTakesTwentyFour();
        typeNeedsNoModel();
        eraseEmpties();
        tokensWithoutAModel();
        tokensOfAnEmptyPrompt();
        tokensOfAFullPrompt();
        noSuchToken();
        noPairStands();
        theLeastPairFirst();
        fromTheLeftAndBehind();
        pairsAtBothEnds();
        pairsOfWhatPairsMade();
        theLastPairOfEight();
        tokensByTheModelOfNow();
        spellWithoutAModel();
        noSuchTokenToSpell();
        itSpellsFewer();
        theLongestSpelling();
        CHECK.end();
    }

    private static Draft merging(int[]... pairs) {
        return Draft.small(12, 0, 1, pairs);
    }

    private static int[] pair(int left, int right) {
        return Draft.pair(left, right);
    }

    private static int[] times(int n, int symbol) {
        int[] row = new int[n];
        Arrays.fill(row, symbol);
        return row;
    }

    private static void row(CachedSpeaker x, int... due) {
        CHECK.same("tokens()", x.tokens(), due.length);
        for (int i = 0; i < due.length; i++) {
            CHECK.same("token(" + i + ")", x.token(i), due[i]);
        }
        for (int i = due.length; i <= 25; i++) {
            CHECK.none("token(" + i + ")", x.token(i));
        }
        CHECK.none("token(-1)", x.token(-1));
    }

    // ---- promise 6

    private static void typeTakesSymbols() {
        CHECK.part("promise 6: false when s is none (symbols are 0 .. 7)");
        for (int s = -130; s <= 270; s++) {
            CachedSpeaker x = merging().speaker();
            boolean due = s >= 0 && s <= 7;
            CHECK.same("type(" + s + ")", x.type(s), due);
            CHECK.same("tokens() after type(" + s + ")", x.tokens(), due ? 1 : 0);
            CHECK.same("token(0) after type(" + s + ")", x.token(0), due ? s : CachedSpeaker.NONE);
        }
        for (int s : new int[] {LEAST, LEAST + 1, LEAST + 8, CachedSpeaker.NONE, 256, 65536, GREATEST - 1, GREATEST}) {
            CHECK.same("type(" + s + ")", new CachedSpeaker().type(s), false);
        }
        // A token that is no symbol cannot be typed, though the model knows it.
        CHECK.same("type(8) with a pair", merging(pair(0, 0)).speaker().type(8), false);
    }

    private static void typeTakesTwentyFour() {
        CHECK.part("promise 6: or there are 24");
        CachedSpeaker x = merging().speaker();
        int[] due = new int[24];
        for (int k = 0; k < 24; k++) {
            due[k] = (5 * k + 3) % 8;
            CHECK.same("type, " + k + " being there", x.type(due[k]), true);
            CHECK.same("tokens()", x.tokens(), k + 1);
        }
        for (int s = -1; s <= 8; s++) {
            CHECK.same("type(" + s + "), 24 being there", x.type(s), false);
        }
        row(x, due);
        // The symbols count, not the tokens that they make.
        x = merging(pair(0, 0), pair(8, 8), pair(9, 9)).speaker(times(24, 0));
        CHECK.same("tokens() of 24 zeros", x.tokens(), 3);
        CHECK.same("type(0), 24 being there", x.type(0), false);
        row(x, 10, 10, 10);
    }

    private static void typeNeedsNoModel() {
        CHECK.part("promise 6: without a model, and through load");
        CachedSpeaker x = new CachedSpeaker();
        for (int k = 0; k < 24; k++) {
            CHECK.same("type, " + k + " being there", x.type(7 - k % 8), true);
        }
        CHECK.same("type, 24 being there", x.type(0), false);
        Draft.write(x, merging().bytes());
        CHECK.same("load()", x.load(), 0);
        CHECK.same("type after load, 24 being there", x.type(0), false);
        int[] due = new int[24];
        for (int k = 0; k < 24; k++) {
            due[k] = 7 - k % 8;
        }
        row(x, due);
    }

    // ---- promise 7

    private static void eraseEmpties() {
        CHECK.part("promise 7: the prompt is empty then");
        for (int count : new int[] {0, 1, 2, 23, 24}) {
            CachedSpeaker x = merging(pair(1, 1)).speaker(times(count, 1));
            x.erase();
            row(x);
            CHECK.same("begin()", Check.outcome(x::begin), Check.ARGUMENT);
            x.erase();
            row(x);
            for (int k = 0; k < 24; k++) {
                CHECK.same("type(2) after erase", x.type(2), true);
            }
            CHECK.same("type(2), 24 being there", x.type(2), false);
            row(x, times(24, 2));
        }
        CachedSpeaker bare = new CachedSpeaker();
        bare.erase();
        bare.type(1);
        bare.erase();
        bare.type(2);
        Draft.write(bare, merging().bytes());
        bare.load();
        row(bare, 2);
    }

    // ---- promises 8 and 9

    private static void tokensWithoutAModel() {
        CHECK.part("promises 8, 9: NONE when there is no model");
        CachedSpeaker x = new CachedSpeaker();
        for (int count = 0; count <= 24; count++) {
            CHECK.none("tokens() with " + count + " symbols", x.tokens());
            CHECK.none("token(0) with " + count + " symbols", x.token(0));
            CHECK.none("token(-1) with " + count + " symbols", x.token(-1));
            x.type(0);
        }
        x.size(9);
        CHECK.same("load() that is refused", x.load(), -1);
        CHECK.none("tokens() after it", x.tokens());
        CHECK.none("token(0) after it", x.token(0));
    }

    private static void tokensOfAnEmptyPrompt() {
        CHECK.part("promises 8, 9: an empty prompt");
        row(merging().speaker());
        row(merging(pair(0, 0)).speaker());
        row(merging(new int[8][2]).speaker());
    }

    private static void tokensOfAFullPrompt() {
        CHECK.part("promises 8, 9: a full prompt");
        row(merging().speaker(times(24, 7)), times(24, 7));
        row(merging(pair(7, 7)).speaker(times(24, 7)), times(12, 8));
        row(merging(pair(7, 7), pair(8, 8)).speaker(times(24, 7)), times(6, 9));
        row(merging(pair(7, 7), pair(8, 8), pair(9, 9)).speaker(times(24, 7)), times(3, 10));
        row(merging(pair(7, 7), pair(8, 8), pair(9, 9), pair(10, 10)).speaker(times(24, 7)), 11, 10);
        row(merging(pair(7, 7), pair(8, 8), pair(9, 9), pair(10, 10), pair(11, 10)).speaker(times(24, 7)), 12);
        // 23 symbols: one is left behind the last pair.
        row(merging(pair(7, 7), pair(8, 8)).speaker(times(23, 7)), 9, 9, 9, 9, 9, 8, 7);
    }

    private static void noSuchToken() {
        CHECK.part("promise 9: NONE when there is no such token");
        CachedSpeaker x = merging(pair(0, 1)).speaker(0, 1, 2);
        int[] wrong = {LEAST, LEAST + 1, LEAST + 2, -24, -2, -1, 2, 3, 23, 24, 25, 1 << 16, GREATEST - 1, GREATEST};
        for (int i : wrong) {
            CHECK.none("token(" + i + ")", x.token(i));
        }
        CHECK.same("token(0)", x.token(0), 8);
        CHECK.same("token(1)", x.token(1), 2);
        // What the row held before, or holds behind its merged end, is no token.
        x.erase();
        CHECK.none("token(0) after erase", x.token(0));
        x.type(3);
        CHECK.same("token(0)", x.token(0), 3);
        CHECK.none("token(1)", x.token(1));
    }

    private static void noPairStands() {
        CHECK.part("its tokens: at first its symbols; as long as some pair stands, left and right next to each other");
        row(merging(pair(0, 1)).speaker(1, 0), 1, 0);
        row(merging(pair(0, 1)).speaker(0, 2, 1), 0, 2, 1);
        row(merging(pair(0, 1)).speaker(0), 0);
        row(merging(pair(0, 1)).speaker(1), 1);
        row(merging(pair(0, 0)).speaker(0), 0);
        row(merging(pair(0, 0)).speaker(0, 1, 0), 0, 1, 0);
        // The last symbol and the first are not next to each other.
        row(merging(pair(1, 0)).speaker(0, 2, 1), 0, 2, 1);
        // A symbol that was erased is next to none.
        CachedSpeaker x = merging(pair(0, 1)).speaker(1, 1);
        x.erase();
        x.type(0);
        row(x, 0);
    }

    private static void theLeastPairFirst() {
        CHECK.part("its tokens: of the pairs that do the one with the least j");
        row(merging(pair(1, 2), pair(0, 1)).speaker(0, 1, 2), 0, 8);
        row(merging(pair(0, 1), pair(1, 2)).speaker(0, 1, 2), 8, 2);
        row(merging(pair(5, 5), pair(1, 2), pair(0, 1)).speaker(0, 1, 2), 0, 9);
        row(merging(pair(0, 1), pair(0, 1)).speaker(0, 1, 0, 1), 8, 8);
        // All of the least pair, before any of the next one.
        row(merging(pair(2, 3), pair(1, 2), pair(3, 1)).speaker(1, 2, 3, 1, 2, 3, 1, 2), 1, 8, 1, 8, 9);
        // The least of all is 2 2, then 1 1, though both stand behind what 3 3 would take.
        row(merging(pair(2, 2), pair(1, 1), pair(3, 3)).speaker(3, 3, 1, 1, 2, 2), 10, 9, 8);
    }

    private static void fromTheLeftAndBehind() {
        CHECK.part("its tokens: from the left (and the going on is behind that)");
        row(merging(pair(0, 0)).speaker(0, 0), 8);
        row(merging(pair(0, 0)).speaker(0, 0, 0), 8, 0);
        row(merging(pair(0, 0)).speaker(0, 0, 0, 0), 8, 8);
        row(merging(pair(0, 0)).speaker(0, 0, 0, 0, 0), 8, 8, 0);
        row(merging(pair(0, 0)).speaker(1, 0, 0, 0, 1, 0, 0), 1, 8, 0, 1, 8);
        // What was merged does not take part in the same going through: 8 0 waits for its own pair.
        row(merging(pair(0, 0), pair(8, 0)).speaker(0, 0, 0), 9);
        row(merging(pair(0, 0), pair(0, 8)).speaker(0, 0, 0), 8, 0);
        row(merging(pair(0, 0), pair(0, 8)).speaker(0, 0, 0, 0), 8, 8);
    }

    private static void pairsAtBothEnds() {
        CHECK.part("its tokens: wherever its two tokens stand, at the ends of the row too");
        row(merging(pair(4, 6)).speaker(4, 6, 1), 8, 1);
        row(merging(pair(4, 6)).speaker(1, 4, 6), 1, 8);
        row(merging(pair(4, 6)).speaker(4, 6, 4, 6), 8, 8);
        int[] full = times(24, 1);
        full[0] = 4;
        full[1] = 6;
        full[22] = 4;
        full[23] = 6;
        int[] due = times(22, 1);
        due[0] = 8;
        due[21] = 8;
        row(merging(pair(4, 6)).speaker(full), due);
        // The right half of a pair at the first place, the left half at the last one.
        full[0] = 6;
        full[1] = 1;
        full[22] = 1;
        full[23] = 4;
        row(merging(pair(4, 6)).speaker(full), full);
    }

    private static void pairsOfWhatPairsMade() {
        CHECK.part("its tokens: pairs of tokens that other pairs made");
        row(merging(pair(0, 1), pair(8, 2), pair(9, 3)).speaker(0, 1, 2, 3), 10);
        row(merging(pair(2, 3), pair(1, 8), pair(0, 9)).speaker(0, 1, 2, 3), 10);
        row(merging(pair(0, 1), pair(2, 3), pair(8, 9)).speaker(0, 1, 2, 3), 10);
        row(merging(pair(0, 1), pair(2, 3), pair(9, 8)).speaker(0, 1, 2, 3), 8, 9);
        row(merging(pair(0, 1), pair(8, 8), pair(8, 9)).speaker(0, 1, 0, 1, 0, 1), 9, 8);
        row(merging(pair(0, 1), pair(8, 8), pair(9, 8)).speaker(0, 1, 0, 1, 0, 1), 10);
    }

    private static void theLastPairOfEight() {
        CHECK.part("its tokens: pair 7, whose bytes are 0 .. 14");
        int[][] chain = {pair(0, 1), pair(8, 1), pair(9, 1), pair(10, 1), pair(11, 1), pair(12, 1), pair(13, 1), pair(14, 1)};
        int[] row = times(24, 1);
        row[0] = 0;
        for (int ones = 1; ones <= 8; ones++) {
            row(merging(chain).speaker(Arrays.copyOf(row, 1 + ones)), 7 + ones);
        }
        row(merging(chain).speaker(Arrays.copyOf(row, 10)), 15, 1);
        int[][] twins = new int[8][];
        for (int j = 0; j < 7; j++) {
            twins[j] = pair(j, j);
        }
        twins[7] = pair(14, 14);
        row(merging(twins).speaker(6, 6, 6, 6, 7, 7), 15, 7, 7);
    }

    private static void tokensByTheModelOfNow() {
        CHECK.part("promise 8: by the model");
        CachedSpeaker x = merging(pair(0, 1)).speaker(0, 1, 1, 2);
        row(x, 8, 1, 2);
        Draft.write(x, merging(pair(1, 2)).bytes());
        row(x, 8, 1, 2);
        CHECK.same("load()", x.load(), 0);
        row(x, 0, 1, 8);
        Draft.write(x, merging().bytes());
        CHECK.same("load()", x.load(), 0);
        row(x, 0, 1, 1, 2);
    }

    // ---- promise 10

    private static void spellWithoutAModel() {
        CHECK.part("promise 10: NONE when there is no model");
        CachedSpeaker x = new CachedSpeaker();
        for (int t = -1; t <= 16; t++) {
            for (int i = -1; i <= 2; i++) {
                CHECK.none("spell(" + t + ", " + i + ")", x.spell(t, i));
            }
        }
    }

    private static void noSuchTokenToSpell() {
        CHECK.part("promise 10: NONE when there is no such token");
        for (int merges = 0; merges <= 8; merges++) {
            CachedSpeaker x = merging(new int[merges][2]).speaker();
            for (int t = -2; t <= 20; t++) {
                boolean known = t >= 0 && t <= 7 + merges;
                int due = !known ? CachedSpeaker.NONE : t < 8 ? t : 0;
                CHECK.same("spell(" + t + ", 0) with MERGES " + merges, x.spell(t, 0), due);
            }
            for (int t : new int[] {LEAST, LEAST + 8, -128, 127, 128, 256, 264, GREATEST - 7, GREATEST}) {
                CHECK.none("spell(" + t + ", 0) with MERGES " + merges, x.spell(t, 0));
            }
        }
        // The model before had more tokens.
        CachedSpeaker x = merging(new int[8][2]).speaker();
        Draft.write(x, merging(new int[3][2]).bytes());
        CHECK.same("spell(15, 0) before load", x.spell(15, 0), 0);
        CHECK.same("load()", x.load(), 0);
        CHECK.same("spell(10, 0)", x.spell(10, 0), 0);
        CHECK.none("spell(11, 0)", x.spell(11, 0));
        CHECK.none("spell(15, 0)", x.spell(15, 0));
    }

    private static void spells(CachedSpeaker x, int t, int... due) {
        for (int i = 0; i < due.length; i++) {
            CHECK.same("spell(" + t + ", " + i + ")", x.spell(t, i), due[i]);
        }
        int[] wrong = {LEAST, LEAST + 1, -2, -1, due.length, due.length + 1, 255, 256, 257, GREATEST - 1, GREATEST};
        for (int i : wrong) {
            if (i < 0 || i >= due.length) {
                CHECK.none("spell(" + t + ", " + i + ")", x.spell(t, i));
            }
        }
    }

    private static void itSpellsFewer() {
        CHECK.part("promise 10: NONE when it spells fewer");
        CachedSpeaker x = merging(pair(0, 7), pair(8, 1), pair(2, 8), pair(9, 10), pair(3, 3)).speaker();
        for (int s = 0; s < 8; s++) {
            spells(x, s, s);
        }
        spells(x, 8, 0, 7);
        spells(x, 9, 0, 7, 1);
        spells(x, 10, 2, 0, 7);
        spells(x, 11, 0, 7, 1, 2, 0, 7);
        spells(x, 12, 3, 3);
    }

    private static void theLongestSpelling() {
        CHECK.part("promise 10: the longest spelling is of 256 symbols, the deepest of 9");
        int[][] doubling = {pair(3, 5), pair(8, 8), pair(9, 9), pair(10, 10), pair(11, 11), pair(12, 12), pair(13, 13),
            pair(14, 14)};
        CachedSpeaker x = merging(doubling).speaker();
        int[] due = new int[256];
        for (int i = 0; i < 256; i++) {
            due[i] = i % 2 == 0 ? 3 : 5;
        }
        spells(x, 15, due);
        spells(merging(doubling).speaker(), 14, Arrays.copyOf(due, 128));
        int[][] leftmost = {pair(0, 1), pair(8, 2), pair(9, 3), pair(10, 4), pair(11, 5), pair(12, 6), pair(13, 7), pair(14, 0)};
        spells(merging(leftmost).speaker(), 15, 0, 1, 2, 3, 4, 5, 6, 7, 0);
        int[][] rightmost = {pair(1, 0), pair(2, 8), pair(3, 9), pair(4, 10), pair(5, 11), pair(6, 12), pair(7, 13), pair(0, 14)};
        spells(merging(rightmost).speaker(), 15, 0, 7, 6, 5, 4, 3, 2, 1, 0);
    }
}
