import java.math.BigInteger;
import java.util.Arrays;

/** READINGS and TRUE sets of events, and DAYS by a seed, with each of their edges. */
public final class HappenedTest {
    private static final int NONE = -1;
    private static final int BAD = -2;
    private static final int FULL = -4;

    private HappenedTest() {
    }

    private static void due(String call, long got, long want) {
        Calls.due(call, got, want);
    }

    private static LastHappened street(int law) {
        LastHappened x = new LastHappened();
        x.law(law);
        x.street(0, 1, 5, 3);
        return x;
    }

    private static void readings() {
        LastHappened x = street(0);
        due("burn() of none", x.burn(), 0);
        for (int n = 0; n <= 6; n++) {
            for (int i = 0; i < n; i++) {
                due("reading " + i, x.reading(0, 23 - 4 * i, 15 - i), i);
                due("readings", x.count(3), i + 1);
            }
            if (n < 6) {
                due("burn() of " + n, x.burn(), n);
                due("none then", x.count(3), 0);
            }
        }
        long before = x.digest();
        int[] want = {0, 0, 1};
        due("a seventh", x.reading(0, 0, 3), FULL);
        due("it counts as FULL", Arrays.equals(want, States.status(x)) ? 1 : 0, 1);
        due("a seventh that is BAD", x.reading(0, 0, 16), BAD);
        due("it counts as BAD", x.status(0), 1);
        due("it is not FULL", x.status(2), 1);
        due("nothing else has changed", x.digest(), before);
        due("burn() of 6", x.burn(), 6);
        due("burn() again", x.burn(), 0);
        due("a first one again", x.reading(0, 0, 3), 0);
        due("the same once more", x.reading(0, 0, 3), 1);
    }

    private static void trueWithoutReadings() {
        LastHappened x = new LastHappened();
        due("no events: the empty set", x.truly(0), 1);
        due("none is in it", x.truly(1), 0);
        x.street(0, 1, 1, 3);
        for (int i = 0; i < 8; i++) {
            due("sets of " + i, x.truly(0), 1 << i);
            due("none is in all of them", x.truly(1), 0);
            x.event(0, 0, i, i % 4, 0, i);
        }
        due("sets of 8", x.truly(0), 256);
        due("none is in all of them", x.truly(1), 0);
    }

    private static void trueOneOfEight() {
        LastHappened x = street(2);
        for (int i = 0; i < 8; i++) {
            x.event(0, 0, 3 * i, 2, 0, 4 + i);
        }
        for (int i = 0; i < 8; i++) {
            x.reading(0, 3 * i, 4 + i);
            due("event " + i + " was read in its hour", x.truly(0), 128);
            due("it is in all of them", x.truly(1), 1 << i);
            x.burn();
            x.reading(0, 23, 4 + i);
            due("event " + i + " was read at 23: none behind it", x.truly(0), 1 << i);
            due("it is in all of them, at 23", x.truly(1), 1 << i);
            x.burn();
        }
        x.reading(0, 23, 3);
        due("its first word was read at 23", x.truly(0), 1);
        due("none happened", x.truly(1), 0);
        x.burn();
        for (int i = 2; i < 8; i++) {
            x.reading(0, 3 * i, 4 + i);
        }
        due("six of eight were read", x.truly(0), 4);
        due("six are in all of them", x.truly(1), 0b11111100);
    }

    private static void trueNone() {
        LastHappened x = street(0);
        x.event(0, 0, 5, 2, 0, 7);
        x.event(0, 0, 6, 1, 0, 8);
        x.reading(0, 0, 3);
        due("a reading that is so anyway", x.truly(0), 4);
        int[] status = States.status(x);
        x.reading(0, 6, 8);
        due("what not enough have seen was read", x.truly(0), 0);
        due("none", x.truly(1), NONE);
        due("none is not counted", Arrays.equals(status, States.status(x)) ? 1 : 0, 1);
        x.burn();
        x.reading(0, 4, 7);
        due("a reading an hour ahead", x.truly(0), 0);
        x.burn();
        x.reading(0, 5, 7);
        x.reading(0, 5, 3);
        due("two readings of an hour that differ", x.truly(1), NONE);
        x.burn();
        due("burnt", x.truly(0), 4);
        long before = x.digest();
        due("truly(2)", x.truly(2), -10);
        due("truly(-1)", x.truly(-1), -10);
        due("each counts as BAD", x.status(0), status[0] + 2);
        due("and nothing has changed", x.digest(), before);
    }

    /** The word alone was read, not the number; a parade is read in every street that it comes along. */
    private static void trueWords() {
        LastHappened x = street(1);
        x.street(1, 2, 5, 3);
        x.event(1, 0, 5, 3, 4, 7);
        x.event(0, 1, 6, 2, 4, 7);
        x.reading(1, 23, 7);
        due("either of them, or both", x.truly(0), 3);
        due("none is in all of them", x.truly(1), 0);
        x.reading(0, 23, 7);
        due("the parade, with the other or without", x.truly(0), 2);
        due("the parade is in all of them", x.truly(1), 1);
        x.reading(1, 5, 3);
        due("but it was not in street 1 then", x.truly(0), 0);
    }

    private static long next(long x) {
        BigInteger times = BigInteger.valueOf(x).multiply(BigInteger.valueOf(1103515245)).add(BigInteger.valueOf(12345));
        return times.mod(BigInteger.valueOf(2147483648L)).longValue();
    }

    /** How often so many events happen, each in so many days; bits of those that do come first. */
    private static int times(int seed, int days, int events, int chance) {
        long x = seed;
        int times = 0;
        for (int i = 0; i < days * events; i++) {
            x = next(x);
            if (x / 65536 % 100 < chance) {
                times++;
            }
        }
        return times;
    }

    private static void drawnEdges() {
        int[] seeds = {0, 1, 2, 12345, 999998, 999999};
        for (int seed : seeds) {
            LastHappened x = street(2);
            for (int i = 0; i < 8; i++) {
                x.event(0, 0, 23 - i, 2, 0, i);
            }
            for (int days : new int[] {0, 1, 2, 29, 30}) {
                for (int chance : new int[] {0, 1, 2, 50, 98, 99, 100}) {
                    due("drawn(" + seed + ", " + days + ", " + chance + ")", x.drawn(seed, days, chance),
                        times(seed, days, 8, chance));
                }
            }
            due("all happen every day", x.drawn(seed, 30, 100), 240);
            due("none happens", x.drawn(seed, 30, 0), 0);
            due("no days", x.drawn(seed, 0, 100), 0);
            due("a day too many", x.drawn(seed, 31, 100), BAD);
            due("a chance too many", x.drawn(seed, 30, 101), BAD);
        }
        LastHappened x = street(0);
        due("no events", x.drawn(999999, 30, 100), 0);
        LastHappened none = new LastHappened();
        due("no streets", none.drawn(999999, 30, 100), 0);
        due("seed 1000000", none.drawn(1000000, 30, 100), BAD);
        due("seed -1", none.drawn(-1, 30, 100), BAD);
    }

    /** By each chance the day of seed 7 in which it begins to happen, worked out from X alone. */
    private static void lessThan() {
        LastHappened x = street(0);
        x.event(0, 0, 4, 2, 0, 7);
        for (int seed = 0; seed < 4; seed++) {
            long drawn = next(seed) / 65536 % 100;
            for (int chance = 0; chance <= 100; chance++) {
                due("less than " + chance + ", seed " + seed, x.drawn(seed, 1, chance), drawn < chance ? 1 : 0);
            }
        }
    }

    /**
     * Each day names are as at first: the second of two like events renames by law 1 only when the
     * first does not happen. X is drawn for events in the order of their numbers, seen or not.
     */
    private static void eachDay() {
        for (int seed = 0; seed < 40; seed++) {
            LastHappened x = street(1);
            x.event(0, 0, 6, 2, 5, 8);
            x.event(0, 0, 5, 1, 9, 9);
            x.event(0, 0, 5, 2, 5, 7);
            long drawn = seed;
            int want = 0;
            for (int day = 0; day < 30; day++) {
                boolean[] happens = new boolean[3];
                for (int i = 0; i < 3; i++) {
                    drawn = next(drawn);
                    happens[i] = drawn / 65536 % 100 < 50;
                }
                want += happens[2] || happens[0] ? 1 : 0;
            }
            due("one of two alike in a day, seed " + seed, x.drawn(seed, 30, 50), want);
        }
        LastHappened x = new LastHappened();
        for (int i = 0; i < 7; i++) {
            x.street(0, i + 1, 1, 3);
        }
        x.event(1, 3, 0, 3, 0, 3);
        due("all streets together", x.drawn(0, 30, 100), 210);
        due("nothing is changed by it", x.drawn(0, 30, 100), 210);
        x.event(1, 3, 0, 2, 0, 3);
        due("one that not enough have seen renames none", x.drawn(0, 30, 100), 210);
    }

    public static void main(String[] args) {
        Calls.part("READINGS 0 to 5, burnt");
        readings();
        Calls.part("TRUE: no readings, 0 to 8 events");
        trueWithoutReadings();
        Calls.part("TRUE: each event, in all of them");
        trueOneOfEight();
        Calls.part("TRUE: no set, none");
        trueNone();
        Calls.part("TRUE: words of streets");
        trueWords();
        Calls.part("DAYS: seeds 0 to 999999, n 0 to 30, w 0 to 100, what is left over");
        drawnEdges();
        Calls.part("DAYS: less than w");
        lessThan();
        Calls.part("DAYS: events in order, each day from names at first");
        eachDay();
        Calls.finish("what was read, drawn");
    }
}
