/** Makes every call on a speaker and on the reference, and compares the answers. */
final class Both {
    private final Check check;
    private final CachedSpeaker x = new CachedSpeaker();
    private final Reference r = new Reference();

    Both(Check check) {
        this.check = check;
    }

    void put(int i, long row) {
        check.same("put(" + i + ", " + row + ")", x.put(i, row), r.put(i, row));
    }

    void fill(int i, int n, int seed) {
        check.same("fill(" + i + ", " + n + ", " + seed + ")", x.fill(i, n, seed), r.fill(i, n, seed));
    }

    void size(int n) {
        check.same("size(" + n + ")", x.size(n), r.size(n));
    }

    void load() {
        check.same("load()", x.load(), r.load());
    }

    void type(int s) {
        check.same("type(" + s + ")", x.type(s), r.type(s));
    }

    void erase() {
        x.erase();
        r.erase();
    }

    int tokens() {
        int due = r.tokens();
        check.same("tokens()", x.tokens(), due);
        return due;
    }

    void token(int i) {
        check.same("token(" + i + ")", x.token(i), r.token(i));
    }

    void spell(int t, int i) {
        check.same("spell(" + t + ", " + i + ")", x.spell(t, i), r.spell(t, i));
    }

    void begin() {
        check.same("begin()", Check.outcome(x::begin), Check.outcome(r::begin));
    }

    void next() {
        check.same("next()", Check.outcome(x::next), Check.outcome(r::next));
    }

    void go(int n) {
        check.same("go(" + n + ")", Check.outcome(() -> x.go(n)), Check.outcome(() -> r.go(n)));
    }

    void output(int i) {
        check.same("output(" + i + ")", x.output(i), r.output(i));
    }

    void taken() {
        check.same("taken()", x.taken(), r.taken());
    }

    boolean running() {
        boolean due = r.running();
        check.same("running()", x.running(), due);
        return due;
    }

    void sum(int t) {
        check.same("sum(" + t + ")", x.sum(t), r.sum(t));
    }

    void kept(int layer, int position, int what, int i) {
        check.same("kept(" + layer + ", " + position + ", " + what + ", " + i + ")",
            x.kept(layer, position, what, i), r.kept(layer, position, what, i));
    }

    void write(byte[] bytes) {
        for (int at = 0; at < bytes.length; at += 8) {
            put(at, Draft.eight(bytes, at));
        }
        size(bytes.length);
    }
}
