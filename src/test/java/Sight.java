import java.util.ArrayList;
import java.util.List;

/**
 * All that can be seen of a speaker, at once or by what it does later. Each look is at an object of its
 * own, made anew, so that no look disturbs another and no object is used for more than 512 calls.
 */
final class Sight {
    interface Maker {
        CachedSpeaker make();
    }

    interface Deed {
        long on(CachedSpeaker x);
    }

    private interface Look {
        void at(CachedSpeaker x, List<Long> seen);
    }

    private static final String[] NAMES = {
        "the tokens", "the spelling", "the run", "what layer 0 keeps", "what layer 1 keeps", "the steps to come",
        "another run", "the image as it loads", "the bytes of the image", "the room of the prompt",
    };
    private static final Look[] LOOKS = {
        Sight::tokens, Sight::spelling, Sight::run, (x, seen) -> kept(x, 0, seen), (x, seen) -> kept(x, 1, seen),
        Sight::steps, Sight::anotherRun, Sight::loading, Sight::bytes, Sight::room,
    };

    private Sight() {
    }

    /** Complains about all that is seen otherwise after the deed than without it. */
    static void unchanged(Check check, String what, Maker maker, Deed deed) {
        for (int k = 0; k < LOOKS.length; k++) {
            List<Long> due = new ArrayList<>();
            LOOKS[k].at(maker.make(), due);
            CachedSpeaker x = maker.make();
            Check.outcome(() -> deed.on(x));
            List<Long> got = new ArrayList<>();
            LOOKS[k].at(x, got);
            check.same(what + " left " + NAMES[k] + " as it was", got.equals(due), true);
        }
    }

    private static void tokens(CachedSpeaker x, List<Long> seen) {
        seen.add((long) x.tokens());
        for (int i = -1; i <= 24; i++) {
            seen.add((long) x.token(i));
        }
    }

    private static void spelling(CachedSpeaker x, List<Long> seen) {
        for (int t = -1; t <= 16; t++) {
            for (int i = -1; i <= 5; i++) {
                seen.add((long) x.spell(t, i));
            }
        }
    }

    private static void run(CachedSpeaker x, List<Long> seen) {
        seen.add((long) x.taken());
        seen.add(x.running() ? 1L : 0L);
        for (int i = -1; i <= 12; i++) {
            seen.add((long) x.output(i));
        }
        for (int t = -1; t <= 16; t++) {
            seen.add((long) x.sum(t));
        }
    }

    private static void kept(CachedSpeaker x, int layer, List<Long> seen) {
        for (int position = 0; position <= 12; position++) {
            for (int i = 0; i <= 8; i++) {
                seen.add((long) x.kept(layer, position, 0, i));
                seen.add((long) x.kept(layer, position, 1, i));
            }
        }
    }

    private static void steps(CachedSpeaker x, List<Long> seen) {
        for (int k = 0; k < 13; k++) {
            seen.add(Check.outcome(x::next));
        }
        run(x, seen);
    }

    private static void anotherRun(CachedSpeaker x, List<Long> seen) {
        seen.add(Check.outcome(x::begin));
        run(x, seen);
        seen.add(Check.outcome(() -> x.go(20)));
        run(x, seen);
    }

    private static void loading(CachedSpeaker x, List<Long> seen) {
        seen.add((long) x.load());
        tokens(x, seen);
        anotherRun(x, seen);
    }

    private static void bytes(CachedSpeaker x, List<Long> seen) {
        for (int number : Window.of(x)) {
            seen.add((long) number);
        }
    }

    private static void room(CachedSpeaker x, List<Long> seen) {
        for (int k = 0; k < 25; k++) {
            seen.add(x.type(k % 8) ? 1L : 0L);
        }
        tokens(x, seen);
    }
}
