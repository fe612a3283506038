/** An image in parts that have names; all parts are 0 until they are set. */
final class Draft {
    final int layers;
    final int heads;
    final int width;
    final int inner;
    final int context;
    final int stop;
    final int shift;
    final int[][] pairs;
    final int[][] meanings;
    final int[][] places;
    final int[][] first;
    /** By layer, then ASK, KEY, VALUE, OUT. */
    final int[][][][] squares;
    final int[][] second;
    final int[][][] up;
    final int[][][] down;
    final int[] last;

    Draft(int layers, int heads, int width, int inner, int context, int stop, int shift, int[]... pairs) {
        this.layers = layers;
        this.heads = heads;
        this.width = width;
        this.inner = inner;
        this.context = context;
        this.stop = stop;
        this.shift = shift;
        this.pairs = pairs;
        meanings = new int[8 + pairs.length][width];
        places = new int[context][width];
        first = new int[layers][width];
        squares = new int[layers][4][width][width];
        second = new int[layers][width];
        up = new int[layers][inner][width];
        down = new int[layers][width][inner];
        last = new int[width];
    }

    /** One layer, one head, width 4, inner 4. */
    static Draft small(int context, int stop, int shift, int[]... pairs) {
        return new Draft(1, 1, 4, 4, context, stop, shift, pairs);
    }

    static int[] pair(int left, int right) {
        return new int[] {left, right};
    }

    static void set(int[] row, int... numbers) {
        System.arraycopy(numbers, 0, row, 0, numbers.length);
    }

    static void even(int[] row, int number) {
        java.util.Arrays.fill(row, number);
    }

    static void slant(int[][] matrix, int number) {
        for (int i = 0; i < matrix.length; i++) {
            matrix[i][i] = number;
        }
    }

    byte[] bytes() {
        java.io.ByteArrayOutputStream out = new java.io.ByteArrayOutputStream();
        add(out, 77, layers, heads, width, inner, context, pairs.length, stop, shift);
        add(out, pairs);
        add(out, meanings);
        add(out, places);
        for (int layer = 0; layer < layers; layer++) {
            add(out, first[layer]);
            for (int[][] square : squares[layer]) {
                add(out, square);
            }
            add(out, second[layer]);
            add(out, up[layer]);
            add(out, down[layer]);
        }
        add(out, last);
        return out.toByteArray();
    }

    private static void add(java.io.ByteArrayOutputStream out, int[][] rows) {
        for (int[] row : rows) {
            add(out, row);
        }
    }

    private static void add(java.io.ByteArrayOutputStream out, int... row) {
        for (int number : row) {
            if (number < -128 || number > 127) {
                throw new AssertionError(number + " is no byte");
            }
            out.write(number);
        }
    }

    /** Eight bytes as put takes them, the first one lowest; behind the end they are 0. */
    static long eight(byte[] bytes, int at) {
        long row = 0;
        for (int k = 7; k >= 0; k--) {
            row = row << 8 | (at + k < bytes.length ? bytes[at + k] & 255 : 0);
        }
        return row;
    }

    /** Writes the bytes into the image of a speaker; those behind them up to a multiple of 8 become 0. */
    static void write(CachedSpeaker x, byte[] bytes) {
        for (int at = 0; at < bytes.length; at += 8) {
            if (!x.put(at, eight(bytes, at))) {
                throw new AssertionError("put was refused at " + at);
            }
        }
        if (!x.size(bytes.length)) {
            throw new AssertionError("size was refused");
        }
    }

    CachedSpeaker speaker(int... symbols) {
        CachedSpeaker x = new CachedSpeaker();
        write(x, bytes());
        int answer = x.load();
        if (answer != 0) {
            throw new AssertionError("load answered " + answer);
        }
        type(x, symbols);
        return x;
    }

    static void type(CachedSpeaker x, int... symbols) {
        for (int s : symbols) {
            if (!x.type(s)) {
                throw new AssertionError("type was refused for " + s);
            }
        }
    }
}
