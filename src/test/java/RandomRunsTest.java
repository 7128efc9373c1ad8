import java.util.Arrays;
import java.util.Random;

/** Runs of calls drawn by a seed, one in eight of all 512, on the class and on the Model: every answer is the same. */
public final class RandomRunsTest {
    private static final int[] WILD = {Integer.MIN_VALUE, -100, -3, -2, -1, 7, 8, 9, 10, 15, 16, 23, 24, 30, 31, 32, 63,
        64, 99, 100, 101, 127, 128, 999999, 1000000, Integer.MAX_VALUE};

    // An object is used for so many calls; so many of them a run ends with, so many at most a text takes.
    private static final int LIFE = 512;
    private static final int LAST_CALLS = 4;
    private static final int TEXT_CALLS = 153;

    private final Random random;
    private final LastHappened tested = new LastHappened();
    private final Model model = new Model();
    private final int run;
    private int calls = 0;
    private boolean same = true;

    private RandomRunsTest(int run) {
        this.run = run;
        this.random = new Random(1000L + run);
    }

    private void call(String name, int... v) {
        long got = Calls.call(tested, name, v);
        long want = model.call(name, v);
        calls++;
        same = same && got == want;
        Calls.due("run " + run + ", call " + calls + ": " + name + Arrays.toString(v), got, want);
    }

    /** A number near those that the argument of a call takes: mostly one of them. */
    private int number(String name, int place) {
        if (random.nextInt(40) == 0) {
            return WILD[random.nextInt(WILD.length)];
        }
        return random.nextInt(limit(name, place));
    }

    private int limit(String name, int place) {
        switch (name) {
            case "town": case "law": return 3;
            case "street": return new int[] {8, 8, 10, 5}[place];
            case "event": return new int[] {6, streets(), 24, 10, 10, 5}[place];
            case "back": return Math.max(1, model(1));
            case "rent": return new int[] {6, 100}[place];
            case "type": return 128;
            case "of": return new int[] {Math.max(1, model(1)), 10}[place];
            case "name": case "letter": case "cab": return place == 0 ? streets() : 24;
            case "which": return place == 0 ? 506 : 24;
            case "find": return place == 0 ? 1 << model(0) : 2;
            case "stage": return new int[] {streets(), 6, 24, 3}[place];
            case "landlords": return new int[] {streets(), streets(), 24, 100}[place];
            case "round": return place == 0 ? 8 : 1 << model(0);
            case "reading": return new int[] {streets(), 24, 5}[place];
            case "truly": case "image": case "from": return 2;
            case "drawn": return new int[] {1000000, 31, 101}[place];
            case "status": return 3;
            case "count": return 6;
            default: return streets();
        }
    }

    private int model(int what) {
        return (int) model.call("count", what);
    }

    private int streets() {
        return Math.max(1, model(0));
    }

    private void callAny() {
        int which = random.nextInt(Calls.NAMES.length);
        String name = Calls.NAMES[which];
        boolean isRare = name.equals("town") || name.equals("from") || name.equals("clear") || name.equals("read");
        if (isRare && random.nextInt(4) > 0 || name.equals("type")) {
            return;
        }
        int[] v = new int[Calls.TAKES[which]];
        for (int place = 0; place < v.length; place++) {
            v[place] = number(name, place);
        }
        if (name.equals("which")) {
            v[0] = 100 * (1 + random.nextInt(4)) + random.nextInt(5);
        }
        if (name.equals("stage") && random.nextInt(2) == 0) {
            v[3] = -1;
        }
        if ((name.equals("which") || name.equals("letter")) && random.nextInt(8) > 0) {
            Arrays.sort(v, 1, 3);
        }
        call(name, v);
    }

    private void readText() {
        String text = random.nextInt(3) == 0 ? text() : marred(text());
        call("clear");
        for (int i = 0; i < text.length(); i++) {
            call("type", text.charAt(i));
        }
        call("read");
        call("digest");
    }

    private String text() {
        StringBuilder made = new StringBuilder();
        item(made, "town", random.nextInt(3));
        int streets = random.nextInt(9);
        for (int i = 0; i < streets; i++) {
            int a = random.nextInt(8);
            item(made, "street", a, (a + 1 + random.nextInt(7)) % 8, 1 + random.nextInt(9), random.nextInt(16));
        }
        int more = random.nextInt(5);
        for (int i = 0; i < more; i++) {
            if (random.nextInt(3) > 0) {
                item(made, "event", random.nextInt(6), random.nextInt(Math.max(1, streets)), random.nextInt(24),
                    random.nextInt(10), random.nextInt(10), random.nextInt(16));
            } else {
                item(made, "rent", random.nextInt(16), random.nextInt(100));
            }
        }
        return made.substring(0, Math.min(150, made.length()));
    }

    private void item(StringBuilder made, String word, int... numbers) {
        blanks(made, 4);
        made.append(word);
        for (int i = 0; i < numbers.length; i++) {
            if (i > 0) {
                made.append(' ');
            }
            blanks(made, i > 0 ? 12 : 3);
            made.append(numbers[i] < 10 && random.nextInt(9) == 0 ? "0" : "").append(numbers[i]);
        }
        blanks(made, 8);
        made.append(';');
    }

    private void blanks(StringBuilder made, int seldom) {
        if (random.nextInt(seldom) == 0) {
            made.append(' ');
        }
    }

    private String marred(String text) {
        StringBuilder made = new StringBuilder(text);
        String signs = "0123456789 ;;  townstreetevent\u0000\n\u007fA-";
        int times = 1 + random.nextInt(2);
        for (int i = 0; i < times && made.length() > 0; i++) {
            int place = random.nextInt(made.length());
            switch (random.nextInt(4)) {
                case 0: made.deleteCharAt(place); break;
                case 1: made.setCharAt(place, signs.charAt(random.nextInt(signs.length()))); break;
                case 2: made.insert(place, signs.charAt(random.nextInt(signs.length()))); break;
                default: made.setLength(place); break;
            }
        }
        return made.substring(0, Math.min(150, made.length()));
    }

    /** A town by calls, with few words and corners, so that names are like and streets meet. */
    private void begin() {
        call("town", random.nextInt(3));
        int streets = random.nextInt(8);
        int corners = 3 + random.nextInt(6);
        for (int i = 0; i < streets; i++) {
            int a = random.nextInt(corners);
            call("street", a, (a + 1 + random.nextInt(corners - 1)) % corners, 1 + random.nextInt(9), random.nextInt(5));
        }
        int events = streets == 0 ? 0 : random.nextInt(9);
        int hours = random.nextBoolean() ? 24 : 8;
        for (int i = 0; i < events; i++) {
            call("event", random.nextInt(6), random.nextInt(streets), random.nextInt(hours), random.nextInt(10),
                random.nextInt(10), random.nextInt(5));
        }
        for (int word = 0; word < 5; word++) {
            call("rent", word, random.nextInt(random.nextBoolean() ? 100 : 8));
        }
    }

    private void go() {
        if (random.nextInt(4) == 0) {
            readText();
        } else {
            begin();
        }
        int last = run % 8 == 0 ? LIFE - LAST_CALLS : 200 + random.nextInt(100);
        while (same && calls < last) {
            callAny();
            if (random.nextInt(100) == 0 && calls + TEXT_CALLS <= last) {
                readText();
            }
        }
        for (int what = 0; what < 3; what++) {
            call("status", what);
        }
        call("digest");
    }

    public static void main(String[] args) {
        int runs = args.length > 0 ? Integer.parseInt(args[0]) : 400;
        for (int run = 0; run < runs && Calls.wrong() == 0; run++) {
            new RandomRunsTest(run).go();
        }
        Calls.finish("runs of calls drawn by a seed, held against the model");
    }
}
