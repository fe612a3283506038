/**
 * A model in which one number of the attention is weighed against the one that is due: when it is that
 * very number, x stays what it was, and when it is off by one, x is, and the sums tell.
 *
 * <p>The place of position 0 is a pattern of 1 and -1, those behind it are another one, so that h is 32 and
 * -32 by the same pattern. A row of a matrix that is made of the two patterns, a times the one and b times
 * the other, gives (256 * a + 128) / 2^8 = a at position 0 and b behind it. The first head is looked at; the
 * second one asks nothing and puts out 64 always, of which OUT takes as many times as are due away.
 */
final class Lens {
    private static final int WIDTH = 8;
    private static final int AT_FIRST = 1;
    private static final int BEHIND = 2;
    /** By how many positions there are: what the second head has as values, so that it puts out 64. */
    private static final int[][] SIXTY_FOUR = {null, {64, 0}, {64, 63}, {60, 66}};
    private static final int[] SIXTY_FOUR_OF_TWELVE = {50, 66};

    private final int positions;
    private final Draft draft;

    Lens(int positions) {
        this.positions = positions;
        draft = new Draft(1, 2, WIDTH, 4, 12, 0, 8);
        for (int p = 0; p < 12; p++) {
            mix(draft.places[p], p == 0 ? 1 : 0, p == 0 ? 0 : 1);
        }
        for (int i = 0; i < 7; i++) {
            draft.meanings[1 + i][i] = 1;
        }
        Draft.even(draft.first[0], 64);
        Draft.even(draft.last, 64);
        int[] yard = positions == 12 ? SIXTY_FOUR_OF_TWELVE : SIXTY_FOUR[positions];
        for (int i = 4; i < 8; i++) {
            mix(draft.squares[0][2][i], yard[0], yard[1]);
        }
    }

    private static int sign(int pattern, int i) {
        return Integer.bitCount(pattern & i) % 2 == 0 ? 1 : -1;
    }

    private static void mix(int[] row, int a, int b) {
        for (int i = 0; i < WIDTH; i++) {
            row[i] = a * sign(AT_FIRST, i) + b * sign(BEHIND, i);
        }
    }

    /** What the last position asks for, in the four numbers of the first head. */
    Lens ask(int... numbers) {
        for (int i = 0; i < numbers.length; i++) {
            mix(draft.squares[0][0][i], positions == 1 ? numbers[i] : 0, positions == 1 ? 0 : numbers[i]);
        }
        return this;
    }

    /** Key number i of the first head, at position 0 and behind it. */
    Lens key(int i, int atFirst, int behind) {
        mix(draft.squares[0][1][i], atFirst, behind);
        return this;
    }

    /** All values of the first head, at position 0 and behind it. */
    Lens values(int atFirst, int behind) {
        for (int i = 0; i < 4; i++) {
            mix(draft.squares[0][2][i], atFirst, behind);
        }
        return this;
    }

    /** Whether the first head puts out what is due: (64 * 4 * out - due * 4 * 64 + 128) / 2^8 is 0 then. */
    void putsOut(Check check, String what, int due) {
        for (int i = 0; i < 4; i++) {
            draft.squares[0][3][0][i] = 64;
            draft.squares[0][3][0][4 + i] = -due;
        }
        CachedSpeaker x = draft.speaker(new int[positions]);
        x.begin();
        for (int i = 0; i < 7; i++) {
            int same = 32 * sign(positions == 1 ? AT_FIRST : BEHIND, i);
            check.same(what + " puts out " + due + ", seen by number " + i + " of y", x.sum(1 + i), same);
        }
    }
}
