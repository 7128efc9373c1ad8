import java.util.Arrays;

/**
 * The class, or the Model, brought into one of three states by calls; and all that can be seen of an
 * object, so that two of them can be told apart.
 */
final class States {
    static final String NEW = "new";
    static final String SMALL = "small";
    static final String FULL = "full";
    static final String[] ALL = {NEW, SMALL, FULL};

    /** A valid text, filled up with blanks to as many bytes as can be. */
    static final String LONGEST = filledUp("town 2;street 0 1 3 4;street 1 2 4 5;event 0 1 5 3 9 8;rent 4 12;rent 15 99;");

    /** Answers calls that are told by their names. */
    interface Caller {
        long call(String name, int... v);
    }

    private States() {
    }

    private static String filledUp(String text) {
        return text + " ".repeat(150 - text.length());
    }

    static LastHappened made(String state) {
        LastHappened x = new LastHappened();
        bring(state, (name, v) -> Calls.call(x, name, v));
        return x;
    }

    static Model model(String state) {
        Model m = new Model();
        bring(state, m::call);
        return m;
    }

    private static void bring(String state, Caller to) {
        if (state.equals(SMALL)) {
            bringSmall(to);
        } else if (state.equals(FULL)) {
            bringFull(to);
        }
    }

    /** One of each, and room for more; image 1 is kept, of less than that. */
    private static void bringSmall(Caller to) {
        to.call("street", 2, 5, 4, 3);
        to.call("image", 1);
        to.call("event", 1, 0, 6, 3, 2, 7);
        to.call("reading", 0, 6, 7);
        to.call("rent", 7, 50);
        to.call("type", 't');
    }

    /** No room for anything more; image 0 is kept, of a town with another law and other rents. */
    private static void bringFull(Caller to) {
        to.call("town", 1);
        for (int i = 0; i < 7; i++) {
            to.call("street", i, i + 1, i + 1, i % 3);
        }
        for (int i = 0; i < 8; i++) {
            to.call("event", i % 6, i % 7, 3 * i, 9, 9 - i, i % 4);
        }
        to.call("rent", 3, 33);
        to.call("image", 0);
        for (int word = 0; word < 16; word++) {
            to.call("rent", word, 99 - word);
        }
        to.call("law", 0);
        for (int i = 0; i < 6; i++) {
            to.call("reading", i, 4 * i, i % 3);
        }
        for (int i = 0; i < LONGEST.length(); i++) {
            to.call("type", LONGEST.charAt(i));
        }
    }

    static int[] status(LastHappened x) {
        return new int[] {x.status(0), x.status(1), x.status(2)};
    }

    /** Counts, digest, all names, changes; all that can be undone; the text; both images. It uses up the object. */
    static long[] seen(LastHappened x) {
        Watcher w = new Watcher();
        for (int what = 0; what < 6; what++) {
            w.see(x.count(what));
        }
        w.see(x.digest());
        int streets = x.count(0);
        for (int street = 0; street < streets; street++) {
            for (int hour = 0; hour < 24; hour++) {
                w.see(x.name(street, hour));
            }
            w.see(x.changes(street));
        }
        w.seeUndone(x);
        w.see(x.read());
        w.see(x.digest());
        for (int i = 0; i < 2; i++) {
            w.see(x.from(i));
            w.see(x.digest());
            w.seeUndone(x);
        }
        return w.seen();
    }

    private static final class Watcher {
        private final long[] values = new long[300];
        private int size = 0;

        void see(long value) {
            values[size] = value;
            size++;
        }

        void seeUndone(LastHappened x) {
            for (int left = x.count(4); left > 0; left--) {
                see(x.undo());
                see(x.digest());
            }
        }

        long[] seen() {
            return Arrays.copyOf(values, size);
        }
    }
}
