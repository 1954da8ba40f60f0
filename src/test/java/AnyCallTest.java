import java.util.Random;

/**
 * No call throws, for any arguments in any state (LANGUAGE.md, rule 7). That holds for calls behind the
 * 512th too, where the answers are free, so the runs here are long and their answers are not looked at.
 */
public final class AnyCallTest {
    private static final int RUNS = 40;
    private static final int CALLS = 50000;
    private static final int KINDS = 16;

    private static final int[] ODD = {
        Integer.MIN_VALUE, Integer.MIN_VALUE + 1, -33, -32, -31, -25, -24, -9, -8, -7, -2, -1, 23, 24, 25,
        31, 32, 33, 63, 64, 254, 255, 256, 511, 512, 1 << 30, Integer.MAX_VALUE - 1, Integer.MAX_VALUE
    };

    private static int drawn(Random random) {
        int kind = random.nextInt(10);
        if (kind == 0) {
            return random.nextInt();
        }
        return kind < 3 ? ODD[random.nextInt(ODD.length)] : random.nextInt(9);
    }

    /** A version that may be there, so that long runs also take versions away one by one. */
    private static int drawnVersion(Random random, BucketVersions x) {
        return random.nextBoolean() ? x.versionAt(random.nextInt(5)) : drawn(random);
    }

    private static void call(BucketVersions x, int kind, Random random) {
        int a = drawn(random);
        int b = drawn(random);
        int c = drawn(random);
        switch (kind) {
            case 0: x.type(a); break;
            case 1: x.erase(); break;
            case 2: x.put(a); break;
            case 3: x.remove(); break;
            case 4: x.destroy(drawnVersion(random, x)); break;
            case 5: x.begin(); break;
            case 6: x.part(a, b, c); break;
            case 7: x.complete(a, b); break;
            case 8: x.abort(a); break;
            case 9: x.expire(a); break;
            case 10: x.get(); break;
            case 11: x.present(); break;
            case 12: x.content(drawnVersion(random, x)); break;
            case 13: x.versionAt(a); break;
            case 14: x.list(a % 2 == 0); break;
            default: x.entry(a, b % 2 == 0); break;
        }
    }

    /** Every other run expires seldom, so that it is mostly full. */
    private static int drawnKind(Random random, boolean seldomExpires) {
        int kind = random.nextInt(KINDS);
        return seldomExpires && kind == 9 && random.nextInt(50) != 0 ? 0 : kind;
    }

    private static boolean endsWell(int seed) {
        Random random = new Random(seed);
        BucketVersions x = new BucketVersions();
        for (int n = 0; n < CALLS; n++) {
            int kind = drawnKind(random, seed % 2 == 1);
            try {
                call(x, kind, random);
            } catch (RuntimeException | StackOverflowError thrown) {
                System.out.println("run " + seed + ", call " + n + " of kind " + kind + " threw " + thrown);
                return false;
            }
        }
        return true;
    }

    public static void main(String[] args) {
        int wrong = 0;
        for (int seed = 0; seed < RUNS; seed++) {
            if (!endsWell(seed)) {
                wrong++;
            }
        }
        System.out.println(wrong == 0 ? "no call threw" : wrong + " runs ended with a call that threw");
        if (wrong != 0) {
            System.exit(1);
        }
    }
}
