import java.util.Arrays;
import java.util.List;
import java.util.Random;

/** An object is used for 512 calls: the last of them answers as the first would; objects have nothing in common. */
public final class LifeTest {
    private static final int LIFE = 512;

    /** Each call with numbers that a town of two streets takes, and with some that none takes. */
    private static final List<Told> CALLS = List.of(
        new Told("town", 1), new Told("town", 3), new Told("street", 3, 4, 5, 6), new Told("street", 4, 4, 5, 6),
        new Told("event", 0, 1, 6, 2, 9, 4), new Told("event", 0, 7, 6, 2, 9, 4), new Told("back", 0),
        new Told("law", 2), new Told("law", -1), new Told("undo"), new Told("rent", 7, 99), new Told("rent", 7, 100),
        new Told("type", 59), new Told("type", 128), new Told("clear"), new Told("read"), new Told("of", 0, 9),
        new Told("of", 0, 10), new Told("name", 1, 23), new Told("name", 1, 24), new Told("changes", 1),
        new Told("which", 107, 0, 23), new Told("which", -1, 0, 23), new Told("letter", 1, 5, 6),
        new Told("letter", 1, 6, 5), new Told("cab", 1, 6, 1), new Told("find", 3, 1), new Told("find", 3, 2),
        new Told("stage", 1, 9, 20, -1), new Told("stage", 1, 9, 20, 0), new Told("stage", 1, 9, 20, 1),
        new Told("stage", 1, 9, 20, -2), new Told("forbid", 0), new Told("rents", 1), new Told("landlords", 0, 1, 12, 5),
        new Told("landlords", 1, 1, 12, 5), new Told("round", 0, 3), new Told("round", 7, 3),
        new Told("reading", 0, 6, 7), new Told("reading", 0, 24, 7), new Told("burn"), new Told("truly", 1),
        new Told("truly", 2), new Told("drawn", 999999, 30, 50), new Told("drawn", 1000000, 30, 50),
        new Told("image", 0), new Told("image", 2), new Told("from", 0), new Told("from", 1), new Told("status", 0),
        new Told("status", 3), new Told("count", 4), new Told("count", 6), new Told("digest"));

    private LifeTest() {
    }

    private static final class Told {
        private final String name;
        private final int[] numbers;

        Told(String name, int... numbers) {
            this.name = name;
            this.numbers = numbers;
        }
    }

    /** An object and the model of it, each called so often. */
    private static final class Pair {
        private final LastHappened tested = new LastHappened();
        private final Model model = new Model();
        private int calls = 0;

        void call(String name, int... v) {
            calls++;
            Calls.due("call " + calls + ", " + name + Arrays.toString(v), Calls.call(tested, name, v), model.call(name, v));
        }

        void call(Told told) {
            call(told.name, told.numbers);
        }

        void begin() {
            call("street", 0, 1, 5, 3);
            call("street", 1, 2, 4, 3);
            call("event", 1, 0, 6, 3, 2, 7);
            call("event", 2, 1, 8, 2, 5, 3);
            call("rent", 7, 40);
            call("image", 0);
        }

        void end() {
            for (int what = 0; what < 3; what++) {
                call("status", what);
            }
            call("digest");
            Calls.due("calls of this object", calls, LIFE);
        }
    }

    private static void oneCallAllALife() {
        Calls.part("512 calls, nearly all of them alike");
        for (Told told : CALLS) {
            Pair pair = new Pair();
            pair.begin();
            while (pair.calls < LIFE - 4) {
                pair.call(told);
            }
            pair.end();
        }
    }

    private static void eachCallAtLast() {
        Calls.part("each call as the 512th, behind all others in turn");
        for (int last = 0; last < CALLS.size(); last++) {
            Pair pair = new Pair();
            pair.begin();
            while (pair.calls < LIFE) {
                int left = LIFE - 1 - pair.calls;
                pair.call(CALLS.get(Math.floorMod(last - left, CALLS.size())));
            }
            Calls.due("calls of this object", pair.calls, LIFE);
        }
    }

    private static void allRefused() {
        Calls.part("STATUS counts 511 calls that are refused");
        LastHappened bad = new LastHappened();
        LastHappened no = new LastHappened();
        LastHappened full = new LastHappened();
        for (int i = 0; i < 7; i++) {
            full.street(0, 1, 1, 0);
        }
        for (int i = 0; i < LIFE - 1; i++) {
            Calls.due("town(3)", bad.town(3), -2);
            Calls.due("undo()", no.undo(), -3);
            if (i < LIFE - 1 - 7) {
                Calls.due("street(0, 1, 1, 0)", full.street(0, 1, 1, 0), -4);
            }
        }
        Calls.due("status(0)", bad.status(0), LIFE - 1);
        Calls.due("status(1)", no.status(1), LIFE - 1);
        Calls.due("status(2), behind 7 streets", full.status(2), LIFE - 1 - 7);
    }

    private static void objectsByTurns() {
        Calls.part("objects called by turns have nothing in common");
        Random random = new Random(5);
        for (int run = 0; run < 20; run++) {
            Pair[] pairs = {new Pair(), new Pair(), new Pair()};
            pairs[0].begin();
            pairs[2].begin();
            while (pairs[0].calls < LIFE && pairs[1].calls < LIFE && pairs[2].calls < LIFE) {
                pairs[random.nextInt(pairs.length)].call(CALLS.get(random.nextInt(CALLS.size())));
            }
        }
    }

    public static void main(String[] args) {
        oneCallAllALife();
        eachCallAtLast();
        allRefused();
        objectsByTurns();
        Calls.finish("objects over all their calls");
    }
}
