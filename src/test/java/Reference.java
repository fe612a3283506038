import java.util.ArrayList;
import java.util.Arrays;
import java.util.List;

/**
 * The document once more, word by word and without regard to speed: nothing is kept but the bytes,
 * the symbols and the tokens that were taken in, and all else is worked out anew when it is asked for.
 */
final class Reference {
    static final int NONE = -1000000000;

    private final long[] image = new long[1500];
    private int length;
    private long[] said;
    private final List<Integer> prompt = new ArrayList<>();
    private List<Integer> takenIn;
    private List<Integer> out = new ArrayList<>();
    private boolean ended;

    private final List<List<long[]>> keys = new ArrayList<>();
    private final List<List<long[]>> values = new ArrayList<>();
    private long[] sums;

    boolean put(int i, long row) {
        if (i < 0 || i > 1492) {
            return false;
        }
        for (int k = 0; k < 8; k++) {
            long bits = row >>> (8 * k) & 255;
            image[i + k] = bits > 127 ? bits - 256 : bits;
        }
        return true;
    }

    boolean fill(int i, int n, int seed) {
        if (i < 0 || i > 1499 || n < 1 || n > 1500 || (long) i + n > 1500) {
            return false;
        }
        for (int k = 0; k <= n - 1; k++) {
            int b = seed * 1000003 + (i + k) * 7919;
            int a = (b ^ (b >>> 13)) * 40503;
            image[i + k] = ((a >>> 9) & 63) - 32;
        }
        return true;
    }

    boolean size(int n) {
        if (n < 0 || n > 1500) {
            return false;
        }
        length = n;
        return true;
    }

    int load() {
        if (length < 9) {
            return -11;
        }
        long merges = image[6];
        boolean[] good = {
            image[0] == 77,
            List.of(1L, 2L).contains(image[1]),
            List.of(1L, 2L, 4L).contains(image[2]),
            List.of(4L, 8L).contains(image[3]),
            4 <= image[4] && image[4] <= 16,
            2 <= image[5] && image[5] <= 12,
            0 <= merges && merges <= 8,
            0 <= image[7] && image[7] <= 7 + merges,
            1 <= image[8] && image[8] <= 10,
        };
        for (int k = 0; k < 9; k++) {
            if (!good[k]) {
                return -(k + 1);
            }
        }
        if (length < 9 + 2 * merges) {
            return -11;
        }
        for (int j = 0; j < merges; j++) {
            for (int side = 0; side < 2; side++) {
                long token = image[9 + 2 * j + side];
                if (token < 0 || token > 7 + j) {
                    return -10;
                }
            }
        }
        long w = image[3];
        long end = 9 + 2 * merges + (8 + merges) * w + image[5] * w;
        for (int layer = 0; layer < image[1]; layer++) {
            end += w;
            end += 4 * w * w;
            end += w;
            end += image[4] * w;
            end += w * image[4];
        }
        end += w;
        if (length != end) {
            return -11;
        }
        said = image.clone();
        takenIn = null;
        out = new ArrayList<>();
        ended = false;
        return 0;
    }

    boolean type(int s) {
        if (s < 0 || s > 7 || prompt.size() == 24) {
            return false;
        }
        prompt.add(s);
        return true;
    }

    void erase() {
        prompt.clear();
    }

    int tokens() {
        return said == null ? NONE : merged().size();
    }

    int token(int i) {
        if (said == null || i < 0 || i >= merged().size()) {
            return NONE;
        }
        return merged().get(i);
    }

    int spell(int t, int i) {
        if (said == null || t < 0 || t >= 8 + said[6]) {
            return NONE;
        }
        List<Integer> symbols = spelling(t);
        return i < 0 || i >= symbols.size() ? NONE : symbols.get(i);
    }

    int begin() {
        if (said == null) {
            throw new IllegalStateException();
        }
        List<Integer> row = merged();
        if (row.isEmpty() || row.size() > said[5]) {
            throw new IllegalArgumentException();
        }
        takenIn = row;
        out = new ArrayList<>();
        ended = false;
        workOut();
        return row.size();
    }

    int next() {
        if (takenIn == null || ended) {
            throw new IllegalStateException();
        }
        int best = 0;
        for (int t = 0; t < sums.length; t++) {
            if (sums[t] > sums[best]) {
                best = t;
            }
        }
        out.add(best);
        if (best == said[7] || takenIn.size() == said[5]) {
            ended = true;
        } else {
            takenIn.add(best);
            workOut();
        }
        return best;
    }

    int go(int n) {
        if (n < 1 || n > 20) {
            throw new IllegalArgumentException();
        }
        if (takenIn == null || ended) {
            throw new IllegalStateException();
        }
        int before = out.size();
        for (int k = 0; k < n && !ended; k++) {
            next();
        }
        return out.size() - before;
    }

    int output(int i) {
        return takenIn == null || i < 0 || i >= out.size() ? NONE : out.get(i);
    }

    int taken() {
        return takenIn == null ? 0 : takenIn.size();
    }

    boolean running() {
        return takenIn != null && !ended;
    }

    int sum(int t) {
        return takenIn == null || t < 0 || t >= 8 + said[6] ? NONE : (int) sums[t];
    }

    int kept(int layer, int position, int what, int i) {
        boolean there = takenIn != null && layer >= 0 && layer < said[1]
            && position >= 0 && position < takenIn.size()
            && (what == 0 || what == 1) && i >= 0 && i < said[3];
        if (!there) {
            return NONE;
        }
        return (int) (what == 0 ? keys : values).get(layer).get(position)[i];
    }

    private List<Integer> merged() {
        List<Integer> row = new ArrayList<>(prompt);
        while (true) {
            int least = -1;
            for (int j = 0; j < said[6] && least < 0; j++) {
                for (int k = 0; k + 1 < row.size(); k++) {
                    if (standsAt(row, k, j)) {
                        least = j;
                    }
                }
            }
            if (least < 0) {
                return row;
            }
            for (int k = 0; k + 1 < row.size(); k++) {
                if (standsAt(row, k, least)) {
                    row.remove(k + 1);
                    row.set(k, 8 + least);
                }
            }
        }
    }

    private boolean standsAt(List<Integer> row, int k, int j) {
        return row.get(k) == said[9 + 2 * j] && row.get(k + 1) == said[10 + 2 * j];
    }

    private List<Integer> spelling(int t) {
        List<Integer> symbols = new ArrayList<>();
        if (t < 8) {
            symbols.add(t);
        } else {
            symbols.addAll(spelling((int) said[9 + 2 * (t - 8)]));
            symbols.addAll(spelling((int) said[10 + 2 * (t - 8)]));
        }
        return symbols;
    }

    // ---- the numbers

    private static long floor(long a, long b) {
        long q = a / b;
        return q * b > a ? q - 1 : q;
    }

    private static long clamp(long a) {
        return a < -127 ? -127 : a > 127 ? 127 : a;
    }

    private static long root(long a) {
        long r = 0;
        while ((r + 1) * (r + 1) <= a) {
            r++;
        }
        return r;
    }

    private static long fade(long d) {
        long z = d / 11;
        long r = d % 11;
        return z > 10 ? 0 : floor(r * r - 58 * r + 1024, 1L << z);
    }

    private static long bend(long a) {
        long b = a + 48;
        if (b < 0) {
            b = 0;
        }
        if (b > 96) {
            b = 96;
        }
        return floor(a * b, 96);
    }

    private static long[] norm(long[] x, long[] g) {
        int w = x.length;
        long m = floor(Arrays.stream(x).sum(), w);
        long s = root(floor(Arrays.stream(x).map(v -> (v - m) * (v - m)).sum(), w));
        long[] answer = new long[w];
        for (int i = 0; i < w; i++) {
            long y = clamp(floor(64 * (x[i] - m), s + 1));
            answer[i] = clamp(floor(y * g[i], 64));
        }
        return answer;
    }

    private static long dot(long[] a, long[] b) {
        long total = 0;
        for (int i = 0; i < a.length; i++) {
            total += a[i] * b[i];
        }
        return total;
    }

    private long[] times(long[][] matrix, long[] x) {
        long shift = said[8];
        return Arrays.stream(matrix)
            .mapToLong(r -> clamp(floor(dot(r, x) + (1L << (shift - 1)), 1L << shift))).toArray();
    }

    private static long[] plus(long[] a, long[] b) {
        long[] c = a.clone();
        for (int i = 0; i < c.length; i++) {
            c[i] += b[i];
        }
        return c;
    }

    private int cursor;

    private long[] row(int n) {
        cursor += n;
        return Arrays.copyOfRange(said, cursor - n, cursor);
    }

    private long[][] rows(int count, int n) {
        long[][] answer = new long[count][];
        for (int k = 0; k < count; k++) {
            answer[k] = row(n);
        }
        return answer;
    }

    /** Layer by layer for all positions at once: a position needs only the keys and values up to its own. */
    private void workOut() {
        int w = (int) said[3];
        int inner = (int) said[4];
        int count = takenIn.size();
        cursor = 9 + 2 * (int) said[6];
        long[][] meanings = rows(8 + (int) said[6], w);
        long[][] places = rows((int) said[5], w);
        long[][] x = new long[count][];
        for (int p = 0; p < count; p++) {
            x[p] = plus(meanings[takenIn.get(p)], places[p]);
        }
        keys.clear();
        values.clear();
        for (int layer = 0; layer < said[1]; layer++) {
            long[] first = row(w);
            long[][] askBy = rows(w, w);
            long[][] keyBy = rows(w, w);
            long[][] valueBy = rows(w, w);
            long[][] outBy = rows(w, w);
            long[] second = row(w);
            long[][] up = rows(inner, w);
            long[][] down = rows(w, inner);
            List<long[]> layerKeys = new ArrayList<>();
            List<long[]> layerValues = new ArrayList<>();
            for (int p = 0; p < count; p++) {
                long[] h = norm(x[p], first);
                layerKeys.add(times(keyBy, h));
                layerValues.add(times(valueBy, h));
                long[] attended = attended(times(askBy, h), layerKeys, layerValues);
                x[p] = plus(x[p], times(outBy, attended));
                long[] u = times(up, norm(x[p], second));
                x[p] = plus(x[p], times(down, Arrays.stream(u).map(Reference::bend).toArray()));
            }
            keys.add(layerKeys);
            values.add(layerValues);
        }
        long[] y = norm(x[count - 1], row(w));
        sums = Arrays.stream(meanings).mapToLong(m -> dot(m, y)).toArray();
    }

    private long[] attended(long[] ask, List<long[]> layerKeys, List<long[]> layerValues) {
        int heads = (int) said[2];
        int n = ask.length / heads;
        long[] answer = new long[ask.length];
        for (int head = 0; head < heads; head++) {
            int from = head * n;
            long[] mine = Arrays.copyOfRange(ask, from, from + n);
            long[] s = layerKeys.stream()
                .mapToLong(k -> floor(dot(mine, Arrays.copyOfRange(k, from, from + n)), 16)).toArray();
            long top = Arrays.stream(s).max().getAsLong();
            long[] e = Arrays.stream(s).map(sj -> fade(top - sj)).toArray();
            long all = Arrays.stream(e).sum();
            for (int i = from; i < from + n; i++) {
                long total = 0;
                for (int j = 0; j < e.length; j++) {
                    total += floor(256 * e[j], all) * layerValues.get(j)[i];
                }
                answer[i] = floor(total + 128, 256);
            }
        }
        return answer;
    }
}
