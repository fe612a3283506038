import java.util.ArrayList;
import java.util.List;

/**
 * All that can be seen of a speaker, at once or by what it does later. Each look is at an object of its
 * own, made anew, so that no look disturbs another and no object is used for more than 512 calls.
 */
final class Sight {
    interface Maker {
        CachedSpeaker make();
    }

    interface Deed {
        long on(CachedSpeaker x);
    }

    private interface Look {
        void at(CachedSpeaker x, List<Long> seen);
    }

    private static final String[] NAMES = {
        "the tokens", "the spelling", "the run", "what layer 0 keeps", "what layer 1 keeps", "the steps to come",
        "another run", "the image as it loads", "the length of the image", "the bytes of the image", "the room of the prompt",
    };
    private static final Look[] LOOKS = {
        Sight::tokens, Sight::spelling, Sight::run, (x, seen) -> kept(x, 0, seen), (x, seen) -> kept(x, 1, seen),
        Sight::steps, Sight::anotherRun, Sight::loading, Sight::length, Sight::bytes, Sight::room,
    };

    private Sight() {
    }

    /** Complains about all that is seen otherwise after the deed than without it. */
    static void unchanged(Check check, String what, Maker maker, Deed deed) {
        for (int k = 0; k < LOOKS.length; k++) {
            List<Long> due = new ArrayList<>();
            LOOKS[k].at(maker.make(), due);
            CachedSpeaker x = maker.make();
            Check.outcome(() -> deed.on(x));
            List<Long> got = new ArrayList<>();
            LOOKS[k].at(x, got);
            check.same(what + " left " + NAMES[k] + " as it was", got.equals(due), true);
        }
    }

    // What may be there is asked for first, what never is last, so that a look does not hide what it disturbs.

    private static void tokens(CachedSpeaker x, List<Long> seen) {
        seen.add((long) x.tokens());
        for (int i = 0; i <= 24; i++) {
            seen.add((long) x.token(i));
        }
        seen.add((long) x.token(-1));
    }

    private static void spelling(CachedSpeaker x, List<Long> seen) {
        for (int t = 0; t <= 16; t++) {
            for (int i = 0; i <= 5; i++) {
                seen.add((long) x.spell(t, i));
            }
        }
        seen.add((long) x.spell(-1, 0));
        seen.add((long) x.spell(0, -1));
    }

    private static void run(CachedSpeaker x, List<Long> seen) {
        seen.add((long) x.taken());
        seen.add(x.running() ? 1L : 0L);
        for (int i = 0; i <= 12; i++) {
            seen.add((long) x.output(i));
        }
        for (int t = 0; t <= 16; t++) {
            seen.add((long) x.sum(t));
        }
        seen.add((long) x.output(-1));
        seen.add((long) x.sum(-1));
    }

    private static void kept(CachedSpeaker x, int layer, List<Long> seen) {
        for (int position = 0; position < 12; position++) {
            for (int i = 0; i < 8; i++) {
                seen.add((long) x.kept(layer, position, 0, i));
                seen.add((long) x.kept(layer, position, 1, i));
            }
        }
    }

    private static void steps(CachedSpeaker x, List<Long> seen) {
        for (int k = 0; k < 13; k++) {
            seen.add(Check.outcome(x::next));
        }
        run(x, seen);
    }

    private static void anotherRun(CachedSpeaker x, List<Long> seen) {
        seen.add(Check.outcome(x::begin));
        run(x, seen);
        seen.add(Check.outcome(() -> x.go(20)));
        run(x, seen);
    }

    private static void loading(CachedSpeaker x, List<Long> seen) {
        seen.add((long) x.load());
        tokens(x, seen);
        anotherRun(x, seen);
    }

    /** By the bounds that load has for it: 9, and 11 .. 25 for one to eight pairs, the first of which is wrong. */
    private static void length(CachedSpeaker x, List<Long> seen) {
        x.put(0, 0);
        seen.add((long) x.load());
        x.put(8, 0x8080808080808001L);
        for (int merges = 1; merges <= 8; merges++) {
            x.put(0, Draft.eight(new byte[] {77, 1, 1, 4, 4, 2, (byte) merges, 0}, 0));
            seen.add((long) x.load());
        }
    }

    private static void bytes(CachedSpeaker x, List<Long> seen) {
        for (int number : Window.of(x)) {
            seen.add((long) number);
        }
    }

    private static void room(CachedSpeaker x, List<Long> seen) {
        for (int k = 0; k < 25; k++) {
            seen.add(x.type(k % 8) ? 1L : 0L);
        }
        tokens(x, seen);
    }
}
