/**
 * Goes on with a row of symbols by whole numbers alone: symbols are merged into tokens, tokens go
 * through layers of attention and mixing whose keys and values are kept, and the token with the
 * greatest sum comes next, until one says stop or there is no more room.
 */
public final class CachedSpeaker {
    public static final int NONE = -1000000000;

    private static final int MOST_BYTES = 1500;
    private static final int BYTES_OF_A_PUT = 8;
    private static final int BEGINNING = 9;
    private static final int SYMBOLS = 8;
    private static final int MOST_TYPED = 24;
    private static final int MOST_STEPS = 20;
    private static final int MOST_LAYERS = 2;
    private static final int MOST_WIDTH = 8;
    private static final int MOST_INNER = 16;
    private static final int MOST_CONTEXT = 12;
    private static final int MOST_TOKENS = 16;

    private final Image image;
    private final Model model;
    private final Prompt prompt;
    private final Run run;

    public CachedSpeaker() {
        image = new Image();
        model = new Model();
        prompt = new Prompt();
        run = new Run(model);
    }

    public boolean put(int i, long row) {
        if (i < 0 || i > MOST_BYTES - BYTES_OF_A_PUT) {
            return false;
        }
        image.write(i, row);
        return true;
    }

    public boolean fill(int i, int n, int seed) {
        // Both are bounded before they are added, so that the sum cannot wrap.
        if (i < 0 || i >= MOST_BYTES || n < 1 || n > MOST_BYTES || i + n > MOST_BYTES) {
            return false;
        }
        image.scatter(i, n, seed);
        return true;
    }

    public boolean size(int n) {
        if (n < 0 || n > MOST_BYTES) {
            return false;
        }
        image.length = n;
        return true;
    }

    public int load() {
        int fault = image.fault();
        if (fault == 0) {
            model.read(image.bytes);
            run.drop();
        }
        return fault;
    }

    public boolean type(int s) {
        if (s < 0 || s >= SYMBOLS || prompt.typed >= MOST_TYPED) {
            return false;
        }
        prompt.append(s);
        return true;
    }

    public void erase() {
        prompt.typed = 0;
    }

    public int tokens() {
        if (!model.loaded) {
            return NONE;
        }
        prompt.mergeBy(model);
        return prompt.merged;
    }

    public int token(int i) {
        if (!model.loaded) {
            return NONE;
        }
        prompt.mergeBy(model);
        return i < 0 || i >= prompt.merged ? NONE : prompt.row[i];
    }

    public int spell(int t, int i) {
        if (!model.loaded || !model.knows(t) || i < 0 || i >= model.spelled[t]) {
            return NONE;
        }
        return model.symbolOf(t, i);
    }

    public int begin() throws IllegalStateException, IllegalArgumentException {
        if (!model.loaded) {
            throw new IllegalStateException("there is no model");
        }
        prompt.mergeBy(model);
        if (prompt.merged < 1 || prompt.merged > model.context) {
            throw new IllegalArgumentException("the prompt has no token or too many");
        }
        run.start(prompt.row, prompt.merged);
        return run.positions;
    }

    public int next() throws IllegalStateException {
        if (!run.goesOn) {
            throw new IllegalStateException("there is no run or it has ended");
        }
        return run.step();
    }

    public int go(int n) throws IllegalArgumentException, IllegalStateException {
        if (n < 1 || n > MOST_STEPS) {
            throw new IllegalArgumentException("the steps are not 1 to 20");
        }
        if (!run.goesOn) {
            throw new IllegalStateException("there is no run or it has ended");
        }
        int steps = 0;
        while (steps < n && run.goesOn) {
            run.step();
            steps++;
        }
        return steps;
    }

    public int output(int i) {
        return i < 0 || i >= run.steps ? NONE : run.outputs[i];
    }

    public int taken() {
        return run.positions;
    }

    public boolean running() {
        return run.goesOn;
    }

    public int sum(int t) {
        return !run.stands() || !model.knows(t) ? NONE : run.sums[t];
    }

    public int kept(int layer, int position, int what, int i) {
        if (layer < 0 || layer >= model.layers || position < 0 || position >= run.positions) {
            return NONE;
        }
        if (what < 0 || what > 1 || i < 0 || i >= model.width) {
            return NONE;
        }
        int row = Run.keptRow(layer, position);
        return what == 0 ? run.keys[row][i] : run.values[row][i];
    }

    /** The arithmetic of the document on single whole numbers. */
    private static final class Whole {
        private static final int CLAMP_AT = 127;
        private static final int ROOT_TOP_BIT = 1 << 14;
        private static final int FADE_STEP = 11;
        private static final int FADE_MOST_HALVINGS = 10;
        private static final int BEND_SPAN = 96;

        /** The document divides by numbers above 0 alone; others are turned away, never divided by. */
        static int floor(int a, int b) {
            return b <= 0 ? 0 : Math.floorDiv(a, b);
        }

        static int clamp(int a) {
            return Math.max(-CLAMP_AT, Math.min(CLAMP_AT, a));
        }

        /** Found bit by bit: no candidate is above 32767, so no square leaves the ints. */
        static int root(int a) {
            int root = 0;
            for (int bit = ROOT_TOP_BIT; bit > 0; bit >>= 1) {
                int candidate = root + bit;
                if (candidate * candidate <= a) {
                    root = candidate;
                }
            }
            return root;
        }

        static int fade(int d) {
            int halvings = d / FADE_STEP;
            int rest = d % FADE_STEP;
            if (halvings > FADE_MOST_HALVINGS) {
                return 0;
            }
            return (rest * rest - 58 * rest + 1024) >> halvings;
        }

        static int bend(int a) {
            int slope = Math.max(0, Math.min(BEND_SPAN, a + 48));
            return floor(a * slope, BEND_SPAN);
        }
    }

    /** The bytes that are being written, which may or may not say a model. */
    private static final class Image {
        private static final int MARK = 77;
        private static final int TOO_SHORT_OR_LONG = -11;
        private static final int BAD_PAIR = -10;

        final byte[] bytes = new byte[MOST_BYTES];
        int length;

        void write(int at, long row) {
            for (int k = 0; k < BYTES_OF_A_PUT; k++) {
                bytes[at + k] = (byte) (row >> (8 * k));
            }
        }

        void scatter(int at, int n, int seed) {
            for (int k = at; k < at + n; k++) {
                int b = seed * 1000003 + k * 7919;
                int a = (b ^ (b >>> 13)) * 40503;
                bytes[k] = (byte) (((a >>> 9) & 63) - 32);
            }
        }

        /** What load answers: 0 when the image says a model, else the first fault. */
        int fault() {
            if (length < BEGINNING) {
                return TOO_SHORT_OR_LONG;
            }
            for (int k = 0; k < BEGINNING; k++) {
                if (!beginningHolds(k)) {
                    return -1 - k;
                }
            }
            if (length < BEGINNING + 2 * bytes[6]) {
                return TOO_SHORT_OR_LONG;
            }
            if (!pairsHold()) {
                return BAD_PAIR;
            }
            return length == saidLength() ? 0 : TOO_SHORT_OR_LONG;
        }

        /** STOP leans on MERGES, which stands before it and so has been looked at before. */
        private boolean beginningHolds(int k) {
            int value = bytes[k];
            switch (k) {
                case 0: return value == MARK;
                case 1: return value >= 1 && value <= MOST_LAYERS;
                case 2: return value == 1 || value == 2 || value == 4;
                case 3: return value == 4 || value == MOST_WIDTH;
                case 4: return value >= 4 && value <= MOST_INNER;
                case 5: return value >= 2 && value <= MOST_CONTEXT;
                case 6: return value >= 0 && value <= MOST_TOKENS - SYMBOLS;
                case 7: return value >= 0 && value < SYMBOLS + bytes[6];
                default: return value >= 1 && value <= 10;
            }
        }

        private boolean pairsHold() {
            for (int k = 0; k < 2 * bytes[6]; k++) {
                int value = bytes[BEGINNING + k];
                if (value < 0 || value >= SYMBOLS + k / 2) {
                    return false;
                }
            }
            return true;
        }

        private int saidLength() {
            int merges = bytes[6];
            int rows = SYMBOLS + merges + bytes[5] + 1;
            return BEGINNING + 2 * merges + rows * bytes[3] + bytes[1] * Model.bytesOfLayer(bytes[3], bytes[4]);
        }
    }

    /** What an image said when it was loaded; it keeps bytes of its own, since the image goes on changing. */
    private static final class Model {
        private final byte[] bytes = new byte[MOST_BYTES];
        /** How many symbols each token spells. */
        final int[] spelled = new int[MOST_TOKENS];
        boolean loaded;
        int layers;
        int heads;
        int width;
        int inner;
        int context;
        int merges;
        int tokenCount;
        int stop;
        int headWidth;
        private int shift;
        private int meanings;
        private int places;
        private int firstLayer;
        private int layerBytes;
        int last;

        static int bytesOfLayer(int width, int inner) {
            return 2 * width + 4 * width * width + 2 * width * inner;
        }

        /** Is called only with bytes in which no fault was found. */
        void read(byte[] from) {
            System.arraycopy(from, 0, bytes, 0, MOST_BYTES);
            layers = bytes[1];
            heads = bytes[2];
            width = bytes[3];
            inner = bytes[4];
            context = bytes[5];
            merges = bytes[6];
            tokenCount = SYMBOLS + merges;
            stop = bytes[7];
            shift = bytes[8];
            headWidth = Whole.floor(width, heads);
            meanings = BEGINNING + 2 * merges;
            places = meanings + tokenCount * width;
            firstLayer = places + context * width;
            layerBytes = bytesOfLayer(width, inner);
            last = firstLayer + layers * layerBytes;
            countSpelled();
            loaded = true;
        }

        /** A pair holds earlier tokens alone, so their counts stand when they are needed. */
        private void countSpelled() {
            for (int t = 0; t < SYMBOLS; t++) {
                spelled[t] = 1;
            }
            for (int j = 0; j < merges; j++) {
                spelled[SYMBOLS + j] = spelled[left(j)] + spelled[right(j)];
            }
        }

        int left(int j) {
            return bytes[BEGINNING + 2 * j];
        }

        int right(int j) {
            return bytes[BEGINNING + 2 * j + 1];
        }

        boolean knows(int t) {
            return t >= 0 && t < tokenCount;
        }

        /** Goes down the pairs; each way down leads to a lesser token, so it ends at a symbol. */
        int symbolOf(int t, int i) {
            int token = t;
            int rest = i;
            for (int depth = 0; depth < MOST_TOKENS && token >= SYMBOLS; depth++) {
                int left = left(token - SYMBOLS);
                if (rest < spelled[left]) {
                    token = left;
                } else {
                    rest -= spelled[left];
                    token = right(token - SYMBOLS);
                }
            }
            return token;
        }

        int firstOf(int layer) {
            return firstLayer + layer * layerBytes;
        }

        /** The w times w matrices, in their order: 0 ASK, 1 KEY, 2 VALUE, 3 OUT. */
        int squareOf(int layer, int which) {
            return firstOf(layer) + width + which * width * width;
        }

        int secondOf(int layer) {
            return squareOf(layer, 4);
        }

        int upOf(int layer) {
            return downOf(layer) - inner * width;
        }

        /** DOWN ends where its layer ends. */
        int downOf(int layer) {
            return firstOf(layer) + layerBytes - width * inner;
        }

        void addMeaningAndPlace(int t, int p, int[] into) {
            for (int i = 0; i < width; i++) {
                into[i] = bytes[meanings + t * width + i] + bytes[places + p * width + i];
            }
        }

        void norm(int[] x, int gains, int[] into) {
            int total = 0;
            for (int i = 0; i < width; i++) {
                total += x[i];
            }
            int mean = Whole.floor(total, width);
            int squares = 0;
            for (int i = 0; i < width; i++) {
                squares += (x[i] - mean) * (x[i] - mean);
            }
            int spread = Whole.root(Whole.floor(squares, width));
            for (int i = 0; i < width; i++) {
                int even = Whole.clamp(Whole.floor(64 * (x[i] - mean), spread + 1));
                into[i] = Whole.clamp(Whole.floor(even * bytes[gains + i], 64));
            }
        }

        /** A shift to the right is the FLOOR by a power of two, below 0 too. */
        void times(int matrix, int rows, int columns, int[] x, int[] into) {
            for (int r = 0; r < rows; r++) {
                int total = product(matrix + r * columns, columns, x);
                into[r] = Whole.clamp((total + (1 << (shift - 1))) >> shift);
            }
        }

        void sumUp(int[] y, int[] sums) {
            for (int t = 0; t < tokenCount; t++) {
                sums[t] = product(meanings + t * width, width, y);
            }
        }

        private int product(int row, int columns, int[] x) {
            int total = 0;
            for (int i = 0; i < columns; i++) {
                total += bytes[row + i] * x[i];
            }
            return total;
        }
    }

    /** The typed symbols, and a row in which they are merged anew whenever their tokens are asked for. */
    private static final class Prompt {
        private final int[] symbols = new int[MOST_TYPED];
        int typed;
        final int[] row = new int[MOST_TYPED];
        int merged;

        void append(int s) {
            symbols[typed] = s;
            typed++;
        }

        /**
         * One pass for each pair is enough: a pair holds only tokens that are less than the one it
         * makes, so a pass leaves none of its own pair and brings none of an earlier pair.
         */
        void mergeBy(Model model) {
            System.arraycopy(symbols, 0, row, 0, typed);
            merged = typed;
            for (int j = 0; j < model.merges; j++) {
                mergePair(model.left(j), model.right(j), SYMBOLS + j);
            }
        }

        private void mergePair(int left, int right, int token) {
            int written = 0;
            int read = 0;
            while (read < merged) {
                boolean stands = read + 1 < merged && row[read] == left && row[read + 1] == right;
                row[written] = stands ? token : row[read];
                written++;
                read += stands ? 2 : 1;
            }
            merged = written;
        }
    }

    /** A run by the model, with the keys and values of all that it took in; without one there are no positions. */
    private static final class Run {
        private static final int ASK = 0;
        private static final int KEY = 1;
        private static final int VALUE = 2;
        private static final int OUT = 3;

        private final Model model;
        final int[][] keys = new int[MOST_LAYERS * MOST_CONTEXT][MOST_WIDTH];
        final int[][] values = new int[MOST_LAYERS * MOST_CONTEXT][MOST_WIDTH];
        /** A run that takes one token in at first and never says stop puts out as many as CONTEXT. */
        final int[] outputs = new int[MOST_CONTEXT];
        final int[] sums = new int[MOST_TOKENS];
        int positions;
        int steps;
        boolean goesOn;
        private final int[] x = new int[MOST_WIDTH];
        private final int[] normed = new int[MOST_WIDTH];
        private final int[] ask = new int[MOST_WIDTH];
        private final int[] blend = new int[MOST_WIDTH];
        private final int[] change = new int[MOST_WIDTH];
        private final int[] bent = new int[MOST_INNER];
        private final int[] weights = new int[MOST_CONTEXT];

        Run(Model model) {
            this.model = model;
        }

        static int keptRow(int layer, int position) {
            return layer * MOST_CONTEXT + position;
        }

        boolean stands() {
            return positions > 0;
        }

        void drop() {
            positions = 0;
            steps = 0;
            goesOn = false;
        }

        void start(int[] row, int count) {
            drop();
            for (int i = 0; i < count; i++) {
                takeIn(row[i]);
            }
            goesOn = true;
        }

        int step() {
            int best = 0;
            for (int t = 1; t < model.tokenCount; t++) {
                if (sums[t] > sums[best]) {
                    best = t;
                }
            }
            outputs[steps] = best;
            steps++;
            if (best == model.stop || positions >= model.context) {
                goesOn = false;
            } else {
                takeIn(best);
            }
            return best;
        }

        private void takeIn(int t) {
            model.addMeaningAndPlace(t, positions, x);
            for (int layer = 0; layer < model.layers; layer++) {
                attend(layer);
                mix(layer);
            }
            model.norm(x, model.last, normed);
            model.sumUp(normed, sums);
            positions++;
        }

        private void attend(int layer) {
            int w = model.width;
            int row = keptRow(layer, positions);
            model.norm(x, model.firstOf(layer), normed);
            model.times(model.squareOf(layer, ASK), w, w, normed, ask);
            model.times(model.squareOf(layer, KEY), w, w, normed, keys[row]);
            model.times(model.squareOf(layer, VALUE), w, w, normed, values[row]);
            for (int head = 0; head < model.heads; head++) {
                int from = head * model.headWidth;
                weigh(layer, from);
                blendValues(layer, from);
            }
            model.times(model.squareOf(layer, OUT), w, w, blend, change);
            addChange();
        }

        /** The weights of one head, by way of its scores and their fades, all in the same row. */
        private void weigh(int layer, int from) {
            int greatest = score(layer, 0, from);
            for (int j = 0; j <= positions; j++) {
                weights[j] = score(layer, j, from);
                greatest = Math.max(greatest, weights[j]);
            }
            int total = 0;
            for (int j = 0; j <= positions; j++) {
                weights[j] = Whole.fade(greatest - weights[j]);
                total += weights[j];
            }
            for (int j = 0; j <= positions; j++) {
                weights[j] = Whole.floor(256 * weights[j], total);
            }
        }

        /** The shift is the FLOOR by 16. */
        private int score(int layer, int j, int from) {
            int[] key = keys[keptRow(layer, j)];
            int total = 0;
            for (int i = from; i < from + model.headWidth; i++) {
                total += ask[i] * key[i];
            }
            return total >> 4;
        }

        private void blendValues(int layer, int from) {
            for (int i = from; i < from + model.headWidth; i++) {
                int total = 0;
                for (int j = 0; j <= positions; j++) {
                    total += weights[j] * values[keptRow(layer, j)][i];
                }
                blend[i] = Whole.floor(total + 128, 256);
            }
        }

        private void mix(int layer) {
            model.norm(x, model.secondOf(layer), normed);
            model.times(model.upOf(layer), model.inner, model.width, normed, bent);
            for (int i = 0; i < model.inner; i++) {
                bent[i] = Whole.bend(bent[i]);
            }
            model.times(model.downOf(layer), model.width, model.inner, bent, change);
            addChange();
        }

        private void addChange() {
            for (int i = 0; i < model.width; i++) {
                x[i] += change[i];
            }
        }
    }
}
