import java.util.LinkedHashMap;
import java.util.Map;

/**
 * "A call that is refused (NONE, false) or throws changes nothing": every refused call in every kind of
 * state, and all that can be seen then and later against an object that was not asked. Calls that only
 * ask change nothing either, so they are here whatever they answer.
 */
public final class RefusedTest {
    private static final int LEAST = Integer.MIN_VALUE;
    private static final int GREATEST = Integer.MAX_VALUE;
    private static final Check CHECK = new Check("RefusedTest");
    private static final Map<String, Sight.Maker> STATES = new LinkedHashMap<>();
    private static final Map<String, Sight.Deed> DEEDS = new LinkedHashMap<>();
    private static final Map<String, Sight.Deed> QUESTIONS = new LinkedHashMap<>();

    public static void main(String[] args) {
        listStates();
        listImagesThatDoNotLoad();
        listDeeds();
        listQuestions();
        for (Map.Entry<String, Sight.Deed> deed : DEEDS.entrySet()) {
            CHECK.part(deed.getKey() + ", refused");
            CHECK.same("in how many states it is refused: more than none", lookAtRefused(deed) > 0, true);
        }
        for (Map.Entry<String, Sight.Deed> question : QUESTIONS.entrySet()) {
            for (Map.Entry<String, Sight.Maker> state : STATES.entrySet()) {
                CHECK.part(question.getKey() + ", with " + state.getKey());
                Sight.unchanged(CHECK, question.getKey(), state.getValue(), question.getValue());
            }
        }
        CHECK.end();
    }

    private static int lookAtRefused(Map.Entry<String, Sight.Deed> deed) {
        int refused = 0;
        for (Map.Entry<String, Sight.Maker> state : STATES.entrySet()) {
            CachedSpeaker x = state.getValue().make();
            long answer = Check.outcome(() -> deed.getValue().on(x));
            if (answer < 0 || answer == Check.STATE || answer == Check.ARGUMENT) {
                refused++;
                CHECK.part(deed.getKey() + ", refused with " + state.getKey());
                Sight.unchanged(CHECK, deed.getKey(), state.getValue(), deed.getValue());
            }
        }
        return refused;
    }

    // ---- states

    /** Two layers with numbers of all kinds, and pairs; what it says goes on for a while. */
    private static byte[] image(int context, int stop) {
        Draft draft = new Draft(2, 2, 4, 4, context, stop, 5, Draft.pair(1, 2), Draft.pair(8, 3), Draft.pair(0, 0));
        byte[] bytes = draft.bytes();
        for (int k = 15; k < bytes.length; k++) {
            bytes[k] = (byte) (((k * 7919 ^ k * 31) & 127) - 64);
        }
        return bytes;
    }

    private static CachedSpeaker loaded(int context, int stop, int... symbols) {
        CachedSpeaker x = new CachedSpeaker();
        Draft.write(x, image(context, stop));
        if (x.load() != 0) {
            throw new AssertionError("the image does not load");
        }
        Draft.type(x, symbols);
        return x;
    }

    private static CachedSpeaker begun(int context, int stop, int steps) {
        CachedSpeaker x = loaded(context, stop, 1, 2, 0);
        x.begin();
        for (int k = 0; k < steps; k++) {
            x.next();
        }
        return x;
    }

    /** The token that is put out first, which makes a run that ends by STOP. */
    private static int firstSaid() {
        return begun(8, 0, 0).next();
    }

    private static void listStates() {
        int never = unsaid(8);
        int neverOfFour = unsaid(4);
        int first = firstSaid();
        STATES.put("a new object", CachedSpeaker::new);
        STATES.put("symbols and no model", () -> {
            CachedSpeaker x = new CachedSpeaker();
            Draft.type(x, 1, 2, 3);
            return x;
        });
        STATES.put("an image that was not loaded", () -> {
            CachedSpeaker x = new CachedSpeaker();
            Draft.write(x, image(8, 0));
            Draft.type(x, 1, 2, 3, 0, 0);
            return x;
        });
        STATES.put("a model and an empty prompt", () -> loaded(8, 7));
        STATES.put("a model and a prompt", () -> loaded(8, 7, 1, 2, 3, 0, 0, 0));
        STATES.put("a model and a full prompt", () -> loaded(8, 7, 7, 6, 5, 4, 3, 2, 1, 0, 7, 6, 5, 4, 3, 2, 1, 0, 7, 6, 5, 4,
            3, 2, 1, 0));
        STATES.put("a run without a step", () -> begun(8, never, 0));
        STATES.put("a run with steps", () -> begun(8, never, 2));
        STATES.put("a run without room", () -> begun(4, neverOfFour, 2));
        STATES.put("a run that CONTEXT ended", () -> begun(4, neverOfFour, 3));
        STATES.put("a run that STOP ended", () -> begun(8, first, 1));
        STATES.put("a run that CONTEXT ended and an empty prompt", () -> {
            CachedSpeaker x = begun(4, neverOfFour, 3);
            x.erase();
            return x;
        });
        STATES.put("a run that STOP ended and a prompt of more tokens than CONTEXT", () -> {
            CachedSpeaker x = begun(8, first, 1);
            Draft.type(x, 4, 5, 4, 5, 4, 5, 4, 5);
            return x;
        });
        STATES.put("a run and an empty prompt", () -> {
            CachedSpeaker x = begun(8, never, 1);
            x.erase();
            return x;
        });
        STATES.put("a run and a prompt of more tokens than CONTEXT", () -> {
            CachedSpeaker x = begun(4, neverOfFour, 1);
            Draft.type(x, 4, 5, 4, 5);
            return x;
        });
        STATES.put("a run and a full prompt", () -> {
            CachedSpeaker x = begun(8, never, 1);
            while (x.type(5)) {
                continue;
            }
            return x;
        });
    }

    /** A token that is not put out before there is no more room. */
    private static int unsaid(int context) {
        for (int stop = 10; stop >= 0; stop--) {
            CachedSpeaker x = begun(context, stop, 0);
            x.go(20);
            if (x.taken() == context) {
                return stop;
            }
        }
        throw new AssertionError("all tokens are said");
    }

    /** A run on a model that stays, and an image that load refuses, for each of its faults. */
    private static void listImagesThatDoNotLoad() {
        int never = unsaid(8);
        for (int at = 0; at < 11; at++) {
            int wrong = at;
            STATES.put("a run and an image with byte " + at + " wrong", () -> {
                CachedSpeaker x = begun(8, never, 1);
                byte[] bytes = image(8, never);
                bytes[wrong] = -1;
                Draft.write(x, bytes);
                return x;
            });
        }
        for (int length : new int[] {0, 8, 9, 14, 15, image(8, never).length - 1, image(8, never).length + 1, 1500}) {
            STATES.put("a run and an image of length " + length, () -> {
                CachedSpeaker x = begun(8, never, 1);
                x.size(length);
                return x;
            });
        }
    }

    // ---- calls that change something unless they are refused

    private static long truth(boolean answer) {
        return answer ? 1 : -1;
    }

    private static void listDeeds() {
        for (int i : new int[] {LEAST, -8, -1, 1493, 1500, GREATEST - 7, GREATEST}) {
            DEEDS.put("put(" + i + ", ..)", x -> truth(x.put(i, 0x5A5A5A5A5A5A5A5AL)));
        }
        int[][] fills = {{-1, 1}, {-1, 100}, {LEAST, 10}, {1500, 1}, {0, 0}, {0, -1}, {10, LEAST}, {0, 1501}, {1, 1500}, {20, 1481},
            {1499, 2}, {9, GREATEST}, {GREATEST, GREATEST}, {GREATEST, 1}, {-5, 60}};
        for (int[] fill : fills) {
            DEEDS.put("fill(" + fill[0] + ", " + fill[1] + ", 3)", x -> truth(x.fill(fill[0], fill[1], 3)));
        }
        for (int n : new int[] {LEAST, -1, 1501, GREATEST}) {
            DEEDS.put("size(" + n + ")", x -> truth(x.size(n)));
        }
        for (int s : new int[] {LEAST, -1, 8, GREATEST}) {
            DEEDS.put("type(" + s + ")", x -> truth(x.type(s)));
        }
        DEEDS.put("type(0)", x -> truth(x.type(0)));
        DEEDS.put("load()", CachedSpeaker::load);
        DEEDS.put("begin()", CachedSpeaker::begin);
        DEEDS.put("next()", CachedSpeaker::next);
        for (int n : new int[] {LEAST, -1, 0, 1, 20, 21, GREATEST}) {
            DEEDS.put("go(" + n + ")", x -> x.go(n));
        }
    }

    // ---- calls that change nothing ever

    private static void listQuestions() {
        QUESTIONS.put("tokens()", CachedSpeaker::tokens);
        QUESTIONS.put("taken()", CachedSpeaker::taken);
        QUESTIONS.put("running()", x -> truth(x.running()));
        for (int i : new int[] {LEAST, -1, 0, 1, 24, GREATEST}) {
            QUESTIONS.put("token(" + i + ")", x -> x.token(i));
            QUESTIONS.put("output(" + i + ")", x -> x.output(i));
            QUESTIONS.put("sum(" + i + ")", x -> x.sum(i));
            QUESTIONS.put("spell(9, " + i + ")", x -> x.spell(9, i));
            QUESTIONS.put("spell(" + i + ", 0)", x -> x.spell(i, 0));
            QUESTIONS.put("kept(1, " + i + ", 1, 0)", x -> x.kept(1, i, 1, 0));
            QUESTIONS.put("kept(" + i + ", 0, 0, 1)", x -> x.kept(i, 0, 0, 1));
        }
    }
}
