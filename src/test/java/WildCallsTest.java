import java.util.Arrays;
import java.util.Random;

/**
 * Calls with any numbers whatever, in towns as full as can be, 512 on each object: none throws, and
 * one that is refused changes nothing but STATUS, by one. The greatest numbers are called in all
 * places at once, too.
 */
public final class WildCallsTest {
    private static final int CALLS = 512;

    private WildCallsTest() {
    }

    private static int wild(Random random) {
        switch (random.nextInt(5)) {
            case 0: return random.nextInt();
            case 1: return random.nextInt(4) - 2;
            case 2: return Integer.MAX_VALUE - random.nextInt(2);
            case 3: return Integer.MIN_VALUE + random.nextInt(2);
            default: return random.nextInt(160) - 10;
        }
    }

    private static LastHappened full(int law) {
        LastHappened x = new LastHappened();
        x.town(law);
        for (int i = 0; i < 7; i++) {
            x.street(i, i + 1, i + 1, i % 2);
        }
        for (int i = 0; i < 8; i++) {
            x.event(i % 6, i % 7, 3 * i, 9, 9 - i, i % 4);
        }
        for (int i = 0; i < 6; i++) {
            x.reading(i, 4 * i, i % 2);
        }
        for (int word = 0; word < 16; word++) {
            x.rent(word, 99);
        }
        return x;
    }

    private static void run(int seed) {
        Random random = new Random(seed);
        LastHappened x = full(seed % 3);
        for (int i = 40; i + 9 < CALLS; i += 9) {
            int which = random.nextInt(Calls.NAMES.length);
            int[] v = new int[Calls.TAKES[which]];
            for (int place = 0; place < v.length; place++) {
                v[place] = random.nextInt(3) == 0 ? random.nextInt(3) : wild(random);
            }
            call(x, Calls.NAMES[which], v);
        }
    }

    private static void call(LastHappened x, String name, int... v) {
        long before = x.digest();
        int[] status = {x.status(0), x.status(1), x.status(2)};
        long got = Calls.call(x, name, v);
        int more = 0;
        for (int what = 0; what < 3; what++) {
            more += x.status(what) - status[what];
        }
        String told = name + Arrays.toString(v);
        boolean isDigest = name.equals("digest");
        boolean isRefused = !isDigest && (got <= -2 && got >= -4 || got == -10 && !name.equals("read")
            || got == -1 && name.equals("status"));
        Calls.due("status behind " + told, more, isRefused ? 1 : 0);
        if (isRefused) {
            Calls.due("digest behind " + told, x.digest(), before);
        }
    }

    private static void sameNumberEverywhere() {
        int[] numbers = {Integer.MIN_VALUE, Integer.MIN_VALUE + 1, -10, -5, -4, -3, -2, -1, 0, 1, 2, 5, 6, 7, 8, 9, 10,
            15, 16, 23, 24, 31, 32, 99, 100, 127, 128, 150, 999999, 1000000, Integer.MAX_VALUE};
        for (int number : numbers) {
            for (int law = 0; law < 4; law++) {
                LastHappened x = law == 3 ? new LastHappened() : full(law);
                for (int i = 0; i < Calls.NAMES.length; i++) {
                    int[] v = new int[Calls.TAKES[i]];
                    Arrays.fill(v, number);
                    call(x, Calls.NAMES[i], v);
                }
            }
        }
    }

    public static void main(String[] args) {
        sameNumberEverywhere();
        for (int seed = 0; seed < 3000; seed++) {
            run(seed);
        }
        Calls.finish("calls with any numbers whatever");
    }
}
