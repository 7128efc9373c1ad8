import java.util.ArrayList;
import java.util.Arrays;
import java.util.HashMap;
import java.util.List;
import java.util.Map;

/**
 * Each argument of each call, in a new object, a small and a full one: every number that it takes (of
 * many, the least and the greatest ones), and those on either side that it does not, up to the least
 * and the greatest int. What is refused has its number, counts once in STATUS under its own reason,
 * and changes nothing else that can be seen.
 */
public final class ArgumentsTest {
    private static final int BAD = -2;
    private static final int NO = -3;
    private static final int FULL = -4;
    private static final int NOT_COUNTED = -1;

    /** Each call, its arguments by their sorts, and numbers that go together where the sorts tell too little. */
    private static final String[][] CALLS = {
        {"town", "law"}, {"street", "corner=3", "corner=4", "minutes", "word"},
        {"event", "kind", "street", "hour", "figure", "figure", "word"}, {"back", "event"}, {"law", "law"},
        {"rent", "word", "money"}, {"type", "byte"}, {"of", "event", "ten"}, {"name", "street", "hour"},
        {"changes", "street"}, {"which", "name=104", "hour=0", "hour=23"}, {"letter", "street", "hour=0", "hour=23"},
        {"cab", "street", "hour", "hour"}, {"find", "streets", "two"}, {"stage", "street", "word", "hour", "i"},
        {"forbid", "street"}, {"rents", "street"}, {"landlords", "street=0", "street=1", "hour", "money"},
        {"round", "corner", "streets"}, {"reading", "street", "hour", "word"}, {"truly", "two"},
        {"drawn", "seed", "days", "chance"}, {"image", "two"}, {"from", "two"}, {"status", "three"}, {"count", "six"}};

    /** The calls by which nothing is changed, whatever they answer. */
    private static final List<String> ASKING = List.of("of", "name", "changes", "which", "letter", "cab", "find", "stage",
        "forbid", "rents", "landlords", "round", "truly", "drawn", "status", "count");

    private static final Map<String, long[]> SEEN = new HashMap<>();

    private final String state;
    private final String[] call;

    private ArgumentsTest(String state, String[] call) {
        this.state = state;
        this.call = call;
    }

    private String sort(int place) {
        return call[1 + place].replaceAll("=.*", "");
    }

    private int streets() {
        return state.equals(States.NEW) ? 0 : state.equals(States.SMALL) ? 1 : 7;
    }

    private int events() {
        return state.equals(States.NEW) ? 0 : state.equals(States.SMALL) ? 1 : 8;
    }

    private int low(int place) {
        return sort(place).equals("minutes") ? 1 : sort(place).equals("i") ? -1 : 0;
    }

    private int high(int place) {
        switch (sort(place)) {
            case "two": return 1;
            case "law": case "three": return 2;
            case "kind": case "six": return 5;
            case "corner": return 7;
            case "minutes": case "figure": case "ten": return 9;
            case "word": return 15;
            case "hour": return 23;
            case "days": return 30;
            case "money": return 99;
            case "chance": return 100;
            case "byte": return 127;
            case "seed": return 999999;
            case "street": return streets() - 1;
            case "streets": return (1 << streets()) - 1;
            case "event": return events() - 1;
            case "name": case "i": return Integer.MAX_VALUE;
            default: throw new IllegalArgumentException(sort(place));
        }
    }

    private int[] usual() {
        int[] v = new int[call.length - 1];
        for (int place = 0; place < v.length; place++) {
            String[] parts = call[1 + place].split("=");
            v[place] = parts.length > 1 ? Integer.parseInt(parts[1]) : low(place);
        }
        return v;
    }

    private boolean isTaken(int[] v) {
        for (int place = 0; place < v.length; place++) {
            if (v[place] < low(place) || v[place] > high(place)) {
                return false;
            }
        }
        boolean isAlike = (call[0].equals("street") || call[0].equals("landlords")) && v[0] == v[1];
        boolean isBackwards = (call[0].equals("which") || call[0].equals("letter")) && v[2] < v[1];
        return !isAlike && !isBackwards;
    }

    /** What BAD is told as. */
    private long bad() {
        return call[0].equals("stage") || call[0].equals("truly") ? -10 : call[0].equals("status") ? -1 : BAD;
    }

    private void check(int... v) {
        String told = state + ": " + call[0] + Arrays.toString(v);
        if (!isTaken(v)) {
            refused(told, States.made(state), call[0], v, bad(), 0);
            return;
        }
        boolean isFull = state.equals(States.FULL)
            && List.of("street", "event", "reading", "type").contains(call[0]);
        boolean isNone = call[0].equals("from")
            && (state.equals(States.NEW) || v[0] == (state.equals(States.SMALL) ? 0 : 1));
        if (isFull || isNone) {
            refused(told, States.made(state), call[0], v, isFull ? FULL : NO, isFull ? 2 : 1);
        } else {
            taken(told, v);
        }
    }

    private void taken(String told, int[] v) {
        LastHappened x = States.made(state);
        Model m = States.model(state);
        int[] before = States.status(x);
        Calls.due(told, Calls.call(x, call[0], v), m.call(call[0], v));
        same(told + ": status", before, States.status(x));
        Calls.due(told + ": digest", x.digest(), m.call("digest"));
        if (ASKING.contains(call[0])) {
            same(told + ": what can be seen", asIs(state), States.seen(x));
        }
    }

    private static long[] asIs(String state) {
        return SEEN.computeIfAbsent(state, s -> States.seen(States.made(s)));
    }

    private static void same(String told, int[] want, int[] got) {
        Calls.due(told + " " + Arrays.toString(got) + " for " + Arrays.toString(want), Arrays.equals(want, got) ? 1 : 0, 1);
    }

    private static void same(String told, long[] want, long[] got) {
        Calls.due(told, Arrays.mismatch(want, got), -1);
    }

    /** A call that is refused; counted tells which count of STATUS it goes to. */
    private void refused(String told, LastHappened x, String name, int[] v, long want, int counted) {
        int[] due = States.status(x);
        if (counted != NOT_COUNTED) {
            due[counted]++;
        }
        Calls.due(told, Calls.call(x, name, v), want);
        same(told + ": status", due, States.status(x));
        same(told + ": what can be seen", asIs(state), States.seen(x));
    }

    /** Numbers on both sides of either edge, and those that a number's low bits alone would let in. */
    private List<Integer> outside(int place) {
        long low = low(place);
        long high = high(place);
        List<Integer> numbers = new ArrayList<>();
        for (long n : new long[] {low - 1, low - 2, high + 1, high + 2, low - 256, high + 256, low - 65536, high + 65536,
                low - (1L << 30), high + (1L << 30), -1, Integer.MIN_VALUE, Integer.MIN_VALUE + 1, Integer.MAX_VALUE,
                Integer.MAX_VALUE - 1}) {
            if ((n < low || n > high) && n == (int) n) {
                numbers.add((int) n);
            }
        }
        return numbers;
    }

    private List<Integer> inside(int place) {
        List<Integer> numbers = new ArrayList<>();
        for (long n = low(place); n <= high(place) && n < 150; n++) {
            numbers.add((int) n);
        }
        if (high(place) >= 150) {
            numbers.addAll(List.of(high(place) - 1, high(place)));
        }
        return numbers;
    }

    private void go() {
        int[] usual = usual();
        for (int place = 0; place < usual.length; place++) {
            for (int number : inside(place)) {
                check(with(usual, place, number));
            }
            for (int number : outside(place)) {
                check(with(usual, place, number));
            }
        }
        for (int number : new int[] {Integer.MIN_VALUE, -3, Integer.MAX_VALUE}) {
            int[] all = new int[usual.length];
            Arrays.fill(all, number);
            check(all);
        }
    }

    private static int[] with(int[] usual, int place, int number) {
        int[] v = usual.clone();
        v[place] = number;
        return v;
    }

    private static void callsWithoutArguments(String state) {
        ArgumentsTest t = new ArgumentsTest(state, new String[] {"undo"});
        int[] none = {};
        if (state.equals(States.NEW)) {
            t.refused("undo of a new object", States.made(state), "undo", none, NO, 1);
            t.refused("clear of an empty text", States.made(state), "clear", none, 0, NOT_COUNTED);
            t.refused("burn of no readings", States.made(state), "burn", none, 0, NOT_COUNTED);
            t.refused("read of an empty text", States.made(state), "read", none, -10, NOT_COUNTED);
        } else if (state.equals(States.SMALL)) {
            t.refused("read of a text cut off", States.made(state), "read", none, -10, NOT_COUNTED);
        }
        Calls.due("digest of " + state, States.made(state).digest(), States.model(state).call("digest"));
        t.refused("digest of " + state + " changes nothing", States.made(state), "digest", none,
            States.model(state).call("digest"), NOT_COUNTED);
    }

    public static void main(String[] args) {
        for (String state : States.ALL) {
            for (String[] call : CALLS) {
                Calls.part(call[0] + ", each argument's edges, " + state + " object");
                new ArgumentsTest(state, call).go();
            }
            Calls.part("calls without arguments, " + state + " object");
            callsWithoutArguments(state);
        }
        Calls.finish("what every argument takes and does not take");
    }
}
