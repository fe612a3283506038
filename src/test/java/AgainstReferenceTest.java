import java.util.Random;

/** Many models and runs of calls, drawn from fixed seeds, against the reference. */
public final class AgainstReferenceTest {
    private static final int[] ODD_NUMBERS = {
        Integer.MIN_VALUE, -1000000000, -129, -2, -1, 0, 1, 7, 8, 12, 16, 24, 127, 1492, 1493, 1499, 1500, 1501,
        Integer.MAX_VALUE - 7, Integer.MAX_VALUE,
    };

    public static void main(String[] args) {
        Check check = new Check("AgainstReferenceTest");
        for (int seed = 0; seed < 1500; seed++) {
            check.part("whole runs, seed " + seed);
            wholeRun(check, new Random(seed));
        }
        for (int seed = 0; seed < 500; seed++) {
            check.part("numbers by fill, seed " + seed);
            filledRun(check, new Random(5555 + seed));
        }
        for (int seed = 0; seed < 3000; seed++) {
            check.part("mixed calls, seed " + seed);
            mixedCalls(check, new Random(7777 + seed));
        }
        for (int seed = 0; seed < 2000; seed++) {
            check.part("broken images, seed " + seed);
            brokenImage(check, new Random(99999 + seed));
        }
        check.end();
    }

    /** A model, a prompt, and all that can be asked about the run after every step. */
    private static void wholeRun(Check check, Random random) {
        Both both = new Both(check);
        both.write(image(random));
        runOf(both, random);
    }

    /** The numbers of the model are not written but filled in, in two parts. */
    private static void filledRun(Check check, Random random) {
        Both both = new Both(check);
        byte[] image = image(random);
        both.write(image);
        int from = 9 + 2 * image[6];
        int middle = from + 1 + random.nextInt(image.length - from - 1);
        both.fill(from, middle - from, random.nextInt());
        both.fill(middle, image.length - middle, random.nextInt());
        runOf(both, random);
    }

    private static void runOf(Both both, Random random) {
        both.load();
        int symbols = 1 + random.nextInt(10);
        int few = 1 + random.nextInt(8);
        for (int k = 0; k < symbols; k++) {
            both.type(random.nextInt(few));
        }
        askPrompt(both);
        both.begin();
        askRun(both);
        for (int k = 0; k < 13 && both.running(); k++) {
            both.next();
            askRun(both);
        }
        both.next();
    }

    private static void askPrompt(Both both) {
        int count = both.tokens();
        for (int i = -1; i <= Math.max(count, 0); i++) {
            both.token(i);
        }
        for (int t = -1; t <= 16; t++) {
            for (int i = -1; i <= 257; i++) {
                both.spell(t, i);
            }
        }
    }

    private static void askRun(Both both) {
        both.running();
        both.taken();
        for (int i = -1; i <= 13; i++) {
            both.output(i);
        }
        for (int t = -1; t <= 16; t++) {
            both.sum(t);
        }
        for (int layer = -1; layer <= 2; layer++) {
            for (int position = -1; position <= 12; position++) {
                for (int what = -1; what <= 2; what++) {
                    for (int i = -1; i <= 8; i++) {
                        both.kept(layer, position, what, i);
                    }
                }
            }
        }
    }

    private static void mixedCalls(Check check, Random random) {
        Both both = new Both(check);
        int calls = 0;
        while (calls < 512) {
            if (calls == 0 || random.nextInt(60) == 0) {
                byte[] image = image(random);
                both.write(image);
                both.load();
                calls += image.length / 8 + 3;
            } else {
                someCall(both, random);
                calls++;
            }
        }
    }

    private static void someCall(Both both, Random random) {
        switch (random.nextInt(20)) {
            case 0: both.put(number(random, 1500), random.nextLong()); break;
            case 1: both.fill(number(random, 1500), number(random, 1500), random.nextInt()); break;
            case 2: both.size(number(random, 1500)); break;
            case 3: both.load(); break;
            case 4: case 5: case 6: both.type(number(random, 8)); break;
            case 7: both.type(random.nextInt(2)); break;
            case 8: if (random.nextInt(3) == 0) { both.erase(); } break;
            case 9: both.tokens(); break;
            case 10: both.token(number(random, 25)); break;
            case 11: both.spell(number(random, 17), number(random, 6)); break;
            case 12: both.begin(); break;
            case 13: both.next(); break;
            case 14: both.go(number(random, 22)); break;
            case 15: both.output(number(random, 13)); break;
            case 16: both.taken(); break;
            case 17: both.running(); break;
            case 18: both.sum(number(random, 17)); break;
            default: both.kept(number(random, 3), number(random, 13), number(random, 3), number(random, 9)); break;
        }
    }

    private static int number(Random random, int below) {
        return random.nextInt(8) == 0 ? ODD_NUMBERS[random.nextInt(ODD_NUMBERS.length)] : random.nextInt(below);
    }

    /** A good image with up to two bytes of its beginning and pairs made others, at many lengths. */
    private static void brokenImage(Check check, Random random) {
        Both both = new Both(check);
        byte[] image = image(random);
        int pairsEnd = 9 + 2 * image[6];
        for (int k = random.nextInt(3); k > 0; k--) {
            int at = random.nextInt(pairsEnd);
            image[at] = (byte) (random.nextBoolean() ? random.nextInt(256) : image[at] + random.nextInt(5) - 2);
        }
        both.write(image);
        int[] lengths = {0, 8, 9, 10, pairsEnd - 1, pairsEnd, image.length - 1, image.length + 1, image.length};
        for (int length : lengths) {
            both.size(length);
            both.load();
            both.tokens();
        }
    }

    private static byte[] image(Random random) {
        int[] heads = {1, 2, 4};
        int merges = random.nextInt(9);
        int[][] pairs = new int[merges][2];
        int few = 1 + random.nextInt(8);
        for (int j = 0; j < merges; j++) {
            for (int side = 0; side < 2; side++) {
                int any = random.nextInt(8 + j);
                pairs[j][side] = any < 8 ? any % few : any;
            }
        }
        Draft draft = new Draft(1 + random.nextInt(2), heads[random.nextInt(3)], 4 + 4 * random.nextInt(2),
            4 + random.nextInt(13), 2 + random.nextInt(11), random.nextInt(8 + merges), 1 + random.nextInt(10), pairs);
        byte[] bytes = draft.bytes();
        int reach = 1 << random.nextInt(8);
        for (int k = 9 + 2 * merges; k < bytes.length; k++) {
            bytes[k] = (byte) (random.nextInt(2 * reach) - reach);
        }
        return bytes;
    }
}
